section
/-! The class's own 23 cells: its arrays (0 things, 1 lengths, 2 aboves, 3 rows, 4 starts, 5 spare, 6 states, 7 on, 8 nexts, 9 lasts) and its numbers (0 Lists.ended, 1 Cursors.ended, 2 made, 3 failures, 4 refused). -/
abbrev cS : Type := (Nat → Nat → Int32) × (Nat → Int32)
def cEnc (b : Nat) (σ : cS) (j : Nat) : Option zE := match j with
  | 0 => some (.inr (3, [.ref (b + 1), .ref (b + 14), .int (σ.2 2), .int (σ.2 3), .int (σ.2 4)]))
  | 1 => some (.inr (1, [.ref (b + 2), .ref (b + 4), .ref (b + 6), .ref (b + 8), .ref (b + 10), .ref (b + 12), .int (σ.2 0)]))
  | 2 => some (.inr (2, [.ref (b + 3)]))
  | 3 => some (zI 100 62 (σ.1 0))
  | 4 => some (.inr (2, [.ref (b + 5)]))
  | 5 => some (zI 100 6 (σ.1 1))
  | 6 => some (.inr (2, [.ref (b + 7)]))
  | 7 => some (zI 100 6 (σ.1 2))
  | 8 => some (.inr (2, [.ref (b + 9)]))
  | 9 => some (zI 100 6 (σ.1 3))
  | 10 => some (.inr (2, [.ref (b + 11)]))
  | 11 => some (zI 100 6 (σ.1 4))
  | 12 => some (.inr (2, [.ref (b + 13)]))
  | 13 => some (zI 100 31 (σ.1 5))
  | 14 => some (.inr (0, [.ref (b + 15), .ref (b + 17), .ref (b + 19), .ref (b + 21), .int (σ.2 1)]))
  | 15 => some (.inr (2, [.ref (b + 16)]))
  | 16 => some (zI 100 3 (σ.1 6))
  | 17 => some (.inr (2, [.ref (b + 18)]))
  | 18 => some (zI 100 3 (σ.1 7))
  | 19 => some (.inr (2, [.ref (b + 20)]))
  | 20 => some (zI 100 3 (σ.1 8))
  | 21 => some (.inr (2, [.ref (b + 22)]))
  | 22 => some (zI 100 3 (σ.1 9))
  | _ => none
def cPut (b : Nat) (σ : cS) (G : gH) : gH := (G.1, (G.2.1, fun q => if b ≤ q ∧ q < b + 23 then cEnc b σ (q - b) else G.2.2 q))
theorem cPut_at {b : Nat} {σ : cS} {G : gH} {j : Nat} (h : j < 23) : (cPut b σ G).2.2 (b + j) = cEnc b σ j := by
  simp only [cPut]
  rw [if_pos ⟨by omega, by omega⟩, Nat.add_sub_cancel_left]
def cSet (σ : cS) (k i : Nat) (x : Int32) : cS := (fun q => if q = k then upd (σ.1 k) i x else σ.1 q, σ.2)
def cSetI (σ : cS) (k : Nat) (x : Int32) : cS := (σ.1, fun q => if q = k then x else σ.2 q)
theorem cUp {b : Nat} {σ σ' : cS} {G : gH} {j : Nat} {e : zE} (hj : j < 23) (h : cEnc b σ' j = some e) (h2 : ∀ i, i < 23 → i ≠ j → cEnc b σ' i = cEnc b σ i) : gUp (cPut b σ G) (b + j) e = cPut b σ' G := by
  unfold gUp zUp cPut
  dsimp only
  congr 2
  funext q
  by_cases hq : q = b + j
  · subst hq
    rw [if_pos rfl, if_pos ⟨by omega, by omega⟩, Nat.add_sub_cancel_left, h]
  · rw [if_neg hq]
    by_cases hz : b ≤ q ∧ q < b + 23
    · rw [if_pos hz, if_pos hz, h2 (q - b) (by omega) (by omega)]
    · rw [if_neg hz, if_neg hz]
def rd (n : Nat) (f : Nat → Int32) (i : Int32) : Int32 := if i < 0 then -1 else if nI n ≤ i then -1 else f i.toNatClampNeg
def wr (σ : cS) (k n : Nat) (i x : Int32) : cS := if i < 0 then σ else if nI n ≤ i then σ else cSet σ k i.toNatClampNeg x
theorem gIn_of {i : Int32} {n : Nat} (h1 : ¬ i < 0) (h2 : ¬ nI n ≤ i) (hn : n < 2 ^ 31) : gIn i n = true := by
  obtain ⟨j, hj, rfl⟩ := nI_of h1
  have h3 : j < n := by
    by_cases h : j < n
    · exact h
    · exact absurd (nI_le (Nat.le_of_not_lt h) hj) h2
  simp only [gIn, nI_clamp hj, Bool.not_eq_true', Bool.or_eq_false_iff, decide_eq_false_iff_not]
  exact ⟨h1, by omega⟩
section CPut
variable {b : Nat} {σ : cS} {G : gH}
theorem c_ob_0 {k : List Value → gR} {ci : Nat} (hc : ci = 3 := by rfl) : gOb (cPut b σ G) b ci k = k ([.ref (b + 1), .ref (b + 14), .int (σ.2 2), .int (σ.2 3), .int (σ.2 4)]) := by
  have h := (cPut_at (b := b) (σ := σ) (G := G) (j := 0) (by decide))
  rw [show b + 0 = b by omega] at h
  subst hc
  unfold gOb
  rw [h]
  rfl
theorem c_fa_0_0 {k : Nat → gR} : gFA (cPut b σ G) b 3 0 k = k (b + 1) := by
  unfold gFA
  rw [c_ob_0]
  rfl
theorem c_fa_0_1 {k : Nat → gR} : gFA (cPut b σ G) b 3 1 k = k (b + 14) := by
  unfold gFA
  rw [c_ob_0]
  rfl
theorem c_fi_0_2 {k : Int32 → gR} : gFI (cPut b σ G) b 3 2 k = k (σ.2 2) := by
  unfold gFI
  rw [c_ob_0]
  rfl
theorem c_put_0_2 {k : gH → gR} {x : Int32} : gPut (cPut b σ G) b 3 2 (.int x) k = k (cPut b (cSetI σ 2 x) G) := by
  have h := (cPut_at (b := b) (σ := σ) (G := G) (j := 0) (by decide))
  rw [show b + 0 = b by omega] at h
  unfold gPut gObW
  rw [h]
  have e : gUp (cPut b σ G) b (.inr (3, ([.ref (b + 1), .ref (b + 14), .int (σ.2 2), .int (σ.2 3), .int (σ.2 4)]).set 2 (.int x))) = cPut b (cSetI σ 2 x) G := by
    refine cUp (j := 0) (by decide) (by simp [cEnc, cSetI]) (fun i hi hne => ?_)
    rcases i with _ | _ | _ | _ | _ | _ | _ | _ | _ | _ | _ | _ | _ | _ | _ | _ | _ | _ | _ | _ | _ | _ | _ | _
    all_goals first | (exact absurd rfl hne) | rfl | (simp [cEnc, cSetI]; done) | (exfalso; omega)
  rw [← e]
  rfl
theorem c_fi_0_3 {k : Int32 → gR} : gFI (cPut b σ G) b 3 3 k = k (σ.2 3) := by
  unfold gFI
  rw [c_ob_0]
  rfl
theorem c_put_0_3 {k : gH → gR} {x : Int32} : gPut (cPut b σ G) b 3 3 (.int x) k = k (cPut b (cSetI σ 3 x) G) := by
  have h := (cPut_at (b := b) (σ := σ) (G := G) (j := 0) (by decide))
  rw [show b + 0 = b by omega] at h
  unfold gPut gObW
  rw [h]
  have e : gUp (cPut b σ G) b (.inr (3, ([.ref (b + 1), .ref (b + 14), .int (σ.2 2), .int (σ.2 3), .int (σ.2 4)]).set 3 (.int x))) = cPut b (cSetI σ 3 x) G := by
    refine cUp (j := 0) (by decide) (by simp [cEnc, cSetI]) (fun i hi hne => ?_)
    rcases i with _ | _ | _ | _ | _ | _ | _ | _ | _ | _ | _ | _ | _ | _ | _ | _ | _ | _ | _ | _ | _ | _ | _ | _
    all_goals first | (exact absurd rfl hne) | rfl | (simp [cEnc, cSetI]; done) | (exfalso; omega)
  rw [← e]
  rfl
theorem c_fi_0_4 {k : Int32 → gR} : gFI (cPut b σ G) b 3 4 k = k (σ.2 4) := by
  unfold gFI
  rw [c_ob_0]
  rfl
theorem c_put_0_4 {k : gH → gR} {x : Int32} : gPut (cPut b σ G) b 3 4 (.int x) k = k (cPut b (cSetI σ 4 x) G) := by
  have h := (cPut_at (b := b) (σ := σ) (G := G) (j := 0) (by decide))
  rw [show b + 0 = b by omega] at h
  unfold gPut gObW
  rw [h]
  have e : gUp (cPut b σ G) b (.inr (3, ([.ref (b + 1), .ref (b + 14), .int (σ.2 2), .int (σ.2 3), .int (σ.2 4)]).set 4 (.int x))) = cPut b (cSetI σ 4 x) G := by
    refine cUp (j := 0) (by decide) (by simp [cEnc, cSetI]) (fun i hi hne => ?_)
    rcases i with _ | _ | _ | _ | _ | _ | _ | _ | _ | _ | _ | _ | _ | _ | _ | _ | _ | _ | _ | _ | _ | _ | _ | _
    all_goals first | (exact absurd rfl hne) | rfl | (simp [cEnc, cSetI]; done) | (exfalso; omega)
  rw [← e]
  rfl
theorem c_ob_1 {k : List Value → gR} {ci : Nat} (hc : ci = 1 := by rfl) : gOb (cPut b σ G) (b + 1) ci k = k ([.ref (b + 2), .ref (b + 4), .ref (b + 6), .ref (b + 8), .ref (b + 10), .ref (b + 12), .int (σ.2 0)]) := by
  have h := (cPut_at (b := b) (σ := σ) (G := G) (j := 1) (by decide))
  subst hc
  unfold gOb
  rw [h]
  rfl
theorem c_fa_1_0 {k : Nat → gR} : gFA (cPut b σ G) (b + 1) 1 0 k = k (b + 2) := by
  unfold gFA
  rw [c_ob_1]
  rfl
theorem c_fa_1_1 {k : Nat → gR} : gFA (cPut b σ G) (b + 1) 1 1 k = k (b + 4) := by
  unfold gFA
  rw [c_ob_1]
  rfl
theorem c_fa_1_2 {k : Nat → gR} : gFA (cPut b σ G) (b + 1) 1 2 k = k (b + 6) := by
  unfold gFA
  rw [c_ob_1]
  rfl
theorem c_fa_1_3 {k : Nat → gR} : gFA (cPut b σ G) (b + 1) 1 3 k = k (b + 8) := by
  unfold gFA
  rw [c_ob_1]
  rfl
theorem c_fa_1_4 {k : Nat → gR} : gFA (cPut b σ G) (b + 1) 1 4 k = k (b + 10) := by
  unfold gFA
  rw [c_ob_1]
  rfl
theorem c_fa_1_5 {k : Nat → gR} : gFA (cPut b σ G) (b + 1) 1 5 k = k (b + 12) := by
  unfold gFA
  rw [c_ob_1]
  rfl
theorem c_fi_1_6 {k : Int32 → gR} : gFI (cPut b σ G) (b + 1) 1 6 k = k (σ.2 0) := by
  unfold gFI
  rw [c_ob_1]
  rfl
theorem c_put_1_6 {k : gH → gR} {x : Int32} : gPut (cPut b σ G) (b + 1) 1 6 (.int x) k = k (cPut b (cSetI σ 0 x) G) := by
  have h := (cPut_at (b := b) (σ := σ) (G := G) (j := 1) (by decide))
  unfold gPut gObW
  rw [h]
  have e : gUp (cPut b σ G) (b + 1) (.inr (1, ([.ref (b + 2), .ref (b + 4), .ref (b + 6), .ref (b + 8), .ref (b + 10), .ref (b + 12), .int (σ.2 0)]).set 6 (.int x))) = cPut b (cSetI σ 0 x) G := by
    refine cUp (j := 1) (by decide) (by simp [cEnc, cSetI]) (fun i hi hne => ?_)
    rcases i with _ | _ | _ | _ | _ | _ | _ | _ | _ | _ | _ | _ | _ | _ | _ | _ | _ | _ | _ | _ | _ | _ | _ | _
    all_goals first | (exact absurd rfl hne) | rfl | (simp [cEnc, cSetI]; done) | (exfalso; omega)
  rw [← e]
  rfl
theorem c_ob_2 {k : List Value → gR} {ci : Nat} (hc : ci = 2 := by rfl) : gOb (cPut b σ G) (b + 2) ci k = k ([.ref (b + 3)]) := by
  have h := (cPut_at (b := b) (σ := σ) (G := G) (j := 2) (by decide))
  subst hc
  unfold gOb
  rw [h]
  rfl
theorem c_fa_2_0 {k : Nat → gR} : gFA (cPut b σ G) (b + 2) 2 0 k = k (b + 3) := by
  unfold gFA
  rw [c_ob_2]
  rfl
theorem c_ob_4 {k : List Value → gR} {ci : Nat} (hc : ci = 2 := by rfl) : gOb (cPut b σ G) (b + 4) ci k = k ([.ref (b + 5)]) := by
  have h := (cPut_at (b := b) (σ := σ) (G := G) (j := 4) (by decide))
  subst hc
  unfold gOb
  rw [h]
  rfl
theorem c_fa_4_0 {k : Nat → gR} : gFA (cPut b σ G) (b + 4) 2 0 k = k (b + 5) := by
  unfold gFA
  rw [c_ob_4]
  rfl
theorem c_ob_6 {k : List Value → gR} {ci : Nat} (hc : ci = 2 := by rfl) : gOb (cPut b σ G) (b + 6) ci k = k ([.ref (b + 7)]) := by
  have h := (cPut_at (b := b) (σ := σ) (G := G) (j := 6) (by decide))
  subst hc
  unfold gOb
  rw [h]
  rfl
theorem c_fa_6_0 {k : Nat → gR} : gFA (cPut b σ G) (b + 6) 2 0 k = k (b + 7) := by
  unfold gFA
  rw [c_ob_6]
  rfl
theorem c_ob_8 {k : List Value → gR} {ci : Nat} (hc : ci = 2 := by rfl) : gOb (cPut b σ G) (b + 8) ci k = k ([.ref (b + 9)]) := by
  have h := (cPut_at (b := b) (σ := σ) (G := G) (j := 8) (by decide))
  subst hc
  unfold gOb
  rw [h]
  rfl
theorem c_fa_8_0 {k : Nat → gR} : gFA (cPut b σ G) (b + 8) 2 0 k = k (b + 9) := by
  unfold gFA
  rw [c_ob_8]
  rfl
theorem c_ob_10 {k : List Value → gR} {ci : Nat} (hc : ci = 2 := by rfl) : gOb (cPut b σ G) (b + 10) ci k = k ([.ref (b + 11)]) := by
  have h := (cPut_at (b := b) (σ := σ) (G := G) (j := 10) (by decide))
  subst hc
  unfold gOb
  rw [h]
  rfl
theorem c_fa_10_0 {k : Nat → gR} : gFA (cPut b σ G) (b + 10) 2 0 k = k (b + 11) := by
  unfold gFA
  rw [c_ob_10]
  rfl
theorem c_ob_12 {k : List Value → gR} {ci : Nat} (hc : ci = 2 := by rfl) : gOb (cPut b σ G) (b + 12) ci k = k ([.ref (b + 13)]) := by
  have h := (cPut_at (b := b) (σ := σ) (G := G) (j := 12) (by decide))
  subst hc
  unfold gOb
  rw [h]
  rfl
theorem c_fa_12_0 {k : Nat → gR} : gFA (cPut b σ G) (b + 12) 2 0 k = k (b + 13) := by
  unfold gFA
  rw [c_ob_12]
  rfl
theorem c_ob_14 {k : List Value → gR} {ci : Nat} (hc : ci = 0 := by rfl) : gOb (cPut b σ G) (b + 14) ci k = k ([.ref (b + 15), .ref (b + 17), .ref (b + 19), .ref (b + 21), .int (σ.2 1)]) := by
  have h := (cPut_at (b := b) (σ := σ) (G := G) (j := 14) (by decide))
  subst hc
  unfold gOb
  rw [h]
  rfl
theorem c_fa_14_0 {k : Nat → gR} : gFA (cPut b σ G) (b + 14) 0 0 k = k (b + 15) := by
  unfold gFA
  rw [c_ob_14]
  rfl
theorem c_fa_14_1 {k : Nat → gR} : gFA (cPut b σ G) (b + 14) 0 1 k = k (b + 17) := by
  unfold gFA
  rw [c_ob_14]
  rfl
theorem c_fa_14_2 {k : Nat → gR} : gFA (cPut b σ G) (b + 14) 0 2 k = k (b + 19) := by
  unfold gFA
  rw [c_ob_14]
  rfl
theorem c_fa_14_3 {k : Nat → gR} : gFA (cPut b σ G) (b + 14) 0 3 k = k (b + 21) := by
  unfold gFA
  rw [c_ob_14]
  rfl
theorem c_fi_14_4 {k : Int32 → gR} : gFI (cPut b σ G) (b + 14) 0 4 k = k (σ.2 1) := by
  unfold gFI
  rw [c_ob_14]
  rfl
theorem c_put_14_4 {k : gH → gR} {x : Int32} : gPut (cPut b σ G) (b + 14) 0 4 (.int x) k = k (cPut b (cSetI σ 1 x) G) := by
  have h := (cPut_at (b := b) (σ := σ) (G := G) (j := 14) (by decide))
  unfold gPut gObW
  rw [h]
  have e : gUp (cPut b σ G) (b + 14) (.inr (0, ([.ref (b + 15), .ref (b + 17), .ref (b + 19), .ref (b + 21), .int (σ.2 1)]).set 4 (.int x))) = cPut b (cSetI σ 1 x) G := by
    refine cUp (j := 14) (by decide) (by simp [cEnc, cSetI]) (fun i hi hne => ?_)
    rcases i with _ | _ | _ | _ | _ | _ | _ | _ | _ | _ | _ | _ | _ | _ | _ | _ | _ | _ | _ | _ | _ | _ | _ | _
    all_goals first | (exact absurd rfl hne) | rfl | (simp [cEnc, cSetI]; done) | (exfalso; omega)
  rw [← e]
  rfl
theorem c_ob_15 {k : List Value → gR} {ci : Nat} (hc : ci = 2 := by rfl) : gOb (cPut b σ G) (b + 15) ci k = k ([.ref (b + 16)]) := by
  have h := (cPut_at (b := b) (σ := σ) (G := G) (j := 15) (by decide))
  subst hc
  unfold gOb
  rw [h]
  rfl
theorem c_fa_15_0 {k : Nat → gR} : gFA (cPut b σ G) (b + 15) 2 0 k = k (b + 16) := by
  unfold gFA
  rw [c_ob_15]
  rfl
theorem c_ob_17 {k : List Value → gR} {ci : Nat} (hc : ci = 2 := by rfl) : gOb (cPut b σ G) (b + 17) ci k = k ([.ref (b + 18)]) := by
  have h := (cPut_at (b := b) (σ := σ) (G := G) (j := 17) (by decide))
  subst hc
  unfold gOb
  rw [h]
  rfl
theorem c_fa_17_0 {k : Nat → gR} : gFA (cPut b σ G) (b + 17) 2 0 k = k (b + 18) := by
  unfold gFA
  rw [c_ob_17]
  rfl
theorem c_ob_19 {k : List Value → gR} {ci : Nat} (hc : ci = 2 := by rfl) : gOb (cPut b σ G) (b + 19) ci k = k ([.ref (b + 20)]) := by
  have h := (cPut_at (b := b) (σ := σ) (G := G) (j := 19) (by decide))
  subst hc
  unfold gOb
  rw [h]
  rfl
theorem c_fa_19_0 {k : Nat → gR} : gFA (cPut b σ G) (b + 19) 2 0 k = k (b + 20) := by
  unfold gFA
  rw [c_ob_19]
  rfl
theorem c_ob_21 {k : List Value → gR} {ci : Nat} (hc : ci = 2 := by rfl) : gOb (cPut b σ G) (b + 21) ci k = k ([.ref (b + 22)]) := by
  have h := (cPut_at (b := b) (σ := σ) (G := G) (j := 21) (by decide))
  subst hc
  unfold gOb
  rw [h]
  rfl
theorem c_fa_21_0 {k : Nat → gR} : gFA (cPut b σ G) (b + 21) 2 0 k = k (b + 22) := by
  unfold gFA
  rw [c_ob_21]
  rfl
theorem c_len_0 {f : Int32 → gR} : gLen (cPut b σ G) (b + 3) 100 f = f (nI 62) := by
  have h := (cPut_at (b := b) (σ := σ) (G := G) (j := 3) (by decide))
  unfold gLen gAr
  rw [h]
  rfl
theorem c_ld_0 {f : Int32 → gR} {i : Int32} : gLd (cPut b σ G) (b + 3) 100 i f = if gIn i 62 = true then f (σ.1 0 i.toNatClampNeg) else none := by
  have h := (cPut_at (b := b) (σ := σ) (G := G) (j := 3) (by decide))
  unfold gLd gAr
  rw [h]
  rfl
theorem c_st_0 {f : gH → gR} {i x : Int32} : gSt (cPut b σ G) (b + 3) 100 i x f = if gIn i 62 = true then f (cPut b (cSet σ 0 i.toNatClampNeg x) G) else none := by
  have h := (cPut_at (b := b) (σ := σ) (G := G) (j := 3) (by decide))
  unfold gSt gArW
  rw [h]
  have e : gUp (cPut b σ G) (b + 3) (zI 100 62 (upd (σ.1 0) i.toNatClampNeg x)) = cPut b (cSet σ 0 i.toNatClampNeg x) G := by
    refine cUp (j := 3) (by decide) (by simp [cEnc, cSet]) (fun i hi hne => ?_)
    rcases i with _ | _ | _ | _ | _ | _ | _ | _ | _ | _ | _ | _ | _ | _ | _ | _ | _ | _ | _ | _ | _ | _ | _ | _
    all_goals first | (exact absurd rfl hne) | rfl | (simp [cEnc, cSet]; done) | (exfalso; omega)
  rw [← e]
  rfl
theorem c_rd_0 {i : Int32} : f_N_read (cPut b σ G) (b + 2) i = rI (rd 62 (σ.1 0) i) (cPut b σ G) := by
  simp only [f_N_read, c_fa_2_0, c_len_0, c_ld_0, rd]
  by_cases h1 : i < 0
  · rw [if_pos h1, if_pos h1]
  · rw [if_neg h1, if_neg h1]
    by_cases h2 : nI 62 ≤ i
    · rw [if_pos h2, if_pos h2]
    · rw [if_neg h2, if_neg h2, if_pos (gIn_of h1 h2 (by decide))]
theorem c_wr_0 {i x : Int32} : f_N_write (cPut b σ G) (b + 2) i x = rV (cPut b (wr σ 0 62 i x) G) := by
  simp only [f_N_write, c_fa_2_0, c_len_0, c_st_0, wr]
  by_cases h1 : i < 0
  · rw [if_pos h1, if_pos h1]
  · rw [if_neg h1, if_neg h1]
    by_cases h2 : nI 62 ≤ i
    · rw [if_pos h2, if_pos h2]
    · rw [if_neg h2, if_neg h2, if_pos (gIn_of h1 h2 (by decide))]
theorem c_len_1 {f : Int32 → gR} : gLen (cPut b σ G) (b + 5) 100 f = f (nI 6) := by
  have h := (cPut_at (b := b) (σ := σ) (G := G) (j := 5) (by decide))
  unfold gLen gAr
  rw [h]
  rfl
theorem c_ld_1 {f : Int32 → gR} {i : Int32} : gLd (cPut b σ G) (b + 5) 100 i f = if gIn i 6 = true then f (σ.1 1 i.toNatClampNeg) else none := by
  have h := (cPut_at (b := b) (σ := σ) (G := G) (j := 5) (by decide))
  unfold gLd gAr
  rw [h]
  rfl
theorem c_st_1 {f : gH → gR} {i x : Int32} : gSt (cPut b σ G) (b + 5) 100 i x f = if gIn i 6 = true then f (cPut b (cSet σ 1 i.toNatClampNeg x) G) else none := by
  have h := (cPut_at (b := b) (σ := σ) (G := G) (j := 5) (by decide))
  unfold gSt gArW
  rw [h]
  have e : gUp (cPut b σ G) (b + 5) (zI 100 6 (upd (σ.1 1) i.toNatClampNeg x)) = cPut b (cSet σ 1 i.toNatClampNeg x) G := by
    refine cUp (j := 5) (by decide) (by simp [cEnc, cSet]) (fun i hi hne => ?_)
    rcases i with _ | _ | _ | _ | _ | _ | _ | _ | _ | _ | _ | _ | _ | _ | _ | _ | _ | _ | _ | _ | _ | _ | _ | _
    all_goals first | (exact absurd rfl hne) | rfl | (simp [cEnc, cSet]; done) | (exfalso; omega)
  rw [← e]
  rfl
theorem c_rd_1 {i : Int32} : f_N_read (cPut b σ G) (b + 4) i = rI (rd 6 (σ.1 1) i) (cPut b σ G) := by
  simp only [f_N_read, c_fa_4_0, c_len_1, c_ld_1, rd]
  by_cases h1 : i < 0
  · rw [if_pos h1, if_pos h1]
  · rw [if_neg h1, if_neg h1]
    by_cases h2 : nI 6 ≤ i
    · rw [if_pos h2, if_pos h2]
    · rw [if_neg h2, if_neg h2, if_pos (gIn_of h1 h2 (by decide))]
theorem c_wr_1 {i x : Int32} : f_N_write (cPut b σ G) (b + 4) i x = rV (cPut b (wr σ 1 6 i x) G) := by
  simp only [f_N_write, c_fa_4_0, c_len_1, c_st_1, wr]
  by_cases h1 : i < 0
  · rw [if_pos h1, if_pos h1]
  · rw [if_neg h1, if_neg h1]
    by_cases h2 : nI 6 ≤ i
    · rw [if_pos h2, if_pos h2]
    · rw [if_neg h2, if_neg h2, if_pos (gIn_of h1 h2 (by decide))]
theorem c_len_2 {f : Int32 → gR} : gLen (cPut b σ G) (b + 7) 100 f = f (nI 6) := by
  have h := (cPut_at (b := b) (σ := σ) (G := G) (j := 7) (by decide))
  unfold gLen gAr
  rw [h]
  rfl
theorem c_ld_2 {f : Int32 → gR} {i : Int32} : gLd (cPut b σ G) (b + 7) 100 i f = if gIn i 6 = true then f (σ.1 2 i.toNatClampNeg) else none := by
  have h := (cPut_at (b := b) (σ := σ) (G := G) (j := 7) (by decide))
  unfold gLd gAr
  rw [h]
  rfl
theorem c_st_2 {f : gH → gR} {i x : Int32} : gSt (cPut b σ G) (b + 7) 100 i x f = if gIn i 6 = true then f (cPut b (cSet σ 2 i.toNatClampNeg x) G) else none := by
  have h := (cPut_at (b := b) (σ := σ) (G := G) (j := 7) (by decide))
  unfold gSt gArW
  rw [h]
  have e : gUp (cPut b σ G) (b + 7) (zI 100 6 (upd (σ.1 2) i.toNatClampNeg x)) = cPut b (cSet σ 2 i.toNatClampNeg x) G := by
    refine cUp (j := 7) (by decide) (by simp [cEnc, cSet]) (fun i hi hne => ?_)
    rcases i with _ | _ | _ | _ | _ | _ | _ | _ | _ | _ | _ | _ | _ | _ | _ | _ | _ | _ | _ | _ | _ | _ | _ | _
    all_goals first | (exact absurd rfl hne) | rfl | (simp [cEnc, cSet]; done) | (exfalso; omega)
  rw [← e]
  rfl
theorem c_rd_2 {i : Int32} : f_N_read (cPut b σ G) (b + 6) i = rI (rd 6 (σ.1 2) i) (cPut b σ G) := by
  simp only [f_N_read, c_fa_6_0, c_len_2, c_ld_2, rd]
  by_cases h1 : i < 0
  · rw [if_pos h1, if_pos h1]
  · rw [if_neg h1, if_neg h1]
    by_cases h2 : nI 6 ≤ i
    · rw [if_pos h2, if_pos h2]
    · rw [if_neg h2, if_neg h2, if_pos (gIn_of h1 h2 (by decide))]
theorem c_wr_2 {i x : Int32} : f_N_write (cPut b σ G) (b + 6) i x = rV (cPut b (wr σ 2 6 i x) G) := by
  simp only [f_N_write, c_fa_6_0, c_len_2, c_st_2, wr]
  by_cases h1 : i < 0
  · rw [if_pos h1, if_pos h1]
  · rw [if_neg h1, if_neg h1]
    by_cases h2 : nI 6 ≤ i
    · rw [if_pos h2, if_pos h2]
    · rw [if_neg h2, if_neg h2, if_pos (gIn_of h1 h2 (by decide))]
theorem c_len_3 {f : Int32 → gR} : gLen (cPut b σ G) (b + 9) 100 f = f (nI 6) := by
  have h := (cPut_at (b := b) (σ := σ) (G := G) (j := 9) (by decide))
  unfold gLen gAr
  rw [h]
  rfl
theorem c_ld_3 {f : Int32 → gR} {i : Int32} : gLd (cPut b σ G) (b + 9) 100 i f = if gIn i 6 = true then f (σ.1 3 i.toNatClampNeg) else none := by
  have h := (cPut_at (b := b) (σ := σ) (G := G) (j := 9) (by decide))
  unfold gLd gAr
  rw [h]
  rfl
theorem c_st_3 {f : gH → gR} {i x : Int32} : gSt (cPut b σ G) (b + 9) 100 i x f = if gIn i 6 = true then f (cPut b (cSet σ 3 i.toNatClampNeg x) G) else none := by
  have h := (cPut_at (b := b) (σ := σ) (G := G) (j := 9) (by decide))
  unfold gSt gArW
  rw [h]
  have e : gUp (cPut b σ G) (b + 9) (zI 100 6 (upd (σ.1 3) i.toNatClampNeg x)) = cPut b (cSet σ 3 i.toNatClampNeg x) G := by
    refine cUp (j := 9) (by decide) (by simp [cEnc, cSet]) (fun i hi hne => ?_)
    rcases i with _ | _ | _ | _ | _ | _ | _ | _ | _ | _ | _ | _ | _ | _ | _ | _ | _ | _ | _ | _ | _ | _ | _ | _
    all_goals first | (exact absurd rfl hne) | rfl | (simp [cEnc, cSet]; done) | (exfalso; omega)
  rw [← e]
  rfl
theorem c_rd_3 {i : Int32} : f_N_read (cPut b σ G) (b + 8) i = rI (rd 6 (σ.1 3) i) (cPut b σ G) := by
  simp only [f_N_read, c_fa_8_0, c_len_3, c_ld_3, rd]
  by_cases h1 : i < 0
  · rw [if_pos h1, if_pos h1]
  · rw [if_neg h1, if_neg h1]
    by_cases h2 : nI 6 ≤ i
    · rw [if_pos h2, if_pos h2]
    · rw [if_neg h2, if_neg h2, if_pos (gIn_of h1 h2 (by decide))]
theorem c_wr_3 {i x : Int32} : f_N_write (cPut b σ G) (b + 8) i x = rV (cPut b (wr σ 3 6 i x) G) := by
  simp only [f_N_write, c_fa_8_0, c_len_3, c_st_3, wr]
  by_cases h1 : i < 0
  · rw [if_pos h1, if_pos h1]
  · rw [if_neg h1, if_neg h1]
    by_cases h2 : nI 6 ≤ i
    · rw [if_pos h2, if_pos h2]
    · rw [if_neg h2, if_neg h2, if_pos (gIn_of h1 h2 (by decide))]
theorem c_len_4 {f : Int32 → gR} : gLen (cPut b σ G) (b + 11) 100 f = f (nI 6) := by
  have h := (cPut_at (b := b) (σ := σ) (G := G) (j := 11) (by decide))
  unfold gLen gAr
  rw [h]
  rfl
theorem c_ld_4 {f : Int32 → gR} {i : Int32} : gLd (cPut b σ G) (b + 11) 100 i f = if gIn i 6 = true then f (σ.1 4 i.toNatClampNeg) else none := by
  have h := (cPut_at (b := b) (σ := σ) (G := G) (j := 11) (by decide))
  unfold gLd gAr
  rw [h]
  rfl
theorem c_st_4 {f : gH → gR} {i x : Int32} : gSt (cPut b σ G) (b + 11) 100 i x f = if gIn i 6 = true then f (cPut b (cSet σ 4 i.toNatClampNeg x) G) else none := by
  have h := (cPut_at (b := b) (σ := σ) (G := G) (j := 11) (by decide))
  unfold gSt gArW
  rw [h]
  have e : gUp (cPut b σ G) (b + 11) (zI 100 6 (upd (σ.1 4) i.toNatClampNeg x)) = cPut b (cSet σ 4 i.toNatClampNeg x) G := by
    refine cUp (j := 11) (by decide) (by simp [cEnc, cSet]) (fun i hi hne => ?_)
    rcases i with _ | _ | _ | _ | _ | _ | _ | _ | _ | _ | _ | _ | _ | _ | _ | _ | _ | _ | _ | _ | _ | _ | _ | _
    all_goals first | (exact absurd rfl hne) | rfl | (simp [cEnc, cSet]; done) | (exfalso; omega)
  rw [← e]
  rfl
theorem c_rd_4 {i : Int32} : f_N_read (cPut b σ G) (b + 10) i = rI (rd 6 (σ.1 4) i) (cPut b σ G) := by
  simp only [f_N_read, c_fa_10_0, c_len_4, c_ld_4, rd]
  by_cases h1 : i < 0
  · rw [if_pos h1, if_pos h1]
  · rw [if_neg h1, if_neg h1]
    by_cases h2 : nI 6 ≤ i
    · rw [if_pos h2, if_pos h2]
    · rw [if_neg h2, if_neg h2, if_pos (gIn_of h1 h2 (by decide))]
theorem c_wr_4 {i x : Int32} : f_N_write (cPut b σ G) (b + 10) i x = rV (cPut b (wr σ 4 6 i x) G) := by
  simp only [f_N_write, c_fa_10_0, c_len_4, c_st_4, wr]
  by_cases h1 : i < 0
  · rw [if_pos h1, if_pos h1]
  · rw [if_neg h1, if_neg h1]
    by_cases h2 : nI 6 ≤ i
    · rw [if_pos h2, if_pos h2]
    · rw [if_neg h2, if_neg h2, if_pos (gIn_of h1 h2 (by decide))]
theorem c_len_5 {f : Int32 → gR} : gLen (cPut b σ G) (b + 13) 100 f = f (nI 31) := by
  have h := (cPut_at (b := b) (σ := σ) (G := G) (j := 13) (by decide))
  unfold gLen gAr
  rw [h]
  rfl
theorem c_ld_5 {f : Int32 → gR} {i : Int32} : gLd (cPut b σ G) (b + 13) 100 i f = if gIn i 31 = true then f (σ.1 5 i.toNatClampNeg) else none := by
  have h := (cPut_at (b := b) (σ := σ) (G := G) (j := 13) (by decide))
  unfold gLd gAr
  rw [h]
  rfl
theorem c_st_5 {f : gH → gR} {i x : Int32} : gSt (cPut b σ G) (b + 13) 100 i x f = if gIn i 31 = true then f (cPut b (cSet σ 5 i.toNatClampNeg x) G) else none := by
  have h := (cPut_at (b := b) (σ := σ) (G := G) (j := 13) (by decide))
  unfold gSt gArW
  rw [h]
  have e : gUp (cPut b σ G) (b + 13) (zI 100 31 (upd (σ.1 5) i.toNatClampNeg x)) = cPut b (cSet σ 5 i.toNatClampNeg x) G := by
    refine cUp (j := 13) (by decide) (by simp [cEnc, cSet]) (fun i hi hne => ?_)
    rcases i with _ | _ | _ | _ | _ | _ | _ | _ | _ | _ | _ | _ | _ | _ | _ | _ | _ | _ | _ | _ | _ | _ | _ | _
    all_goals first | (exact absurd rfl hne) | rfl | (simp [cEnc, cSet]; done) | (exfalso; omega)
  rw [← e]
  rfl
theorem c_rd_5 {i : Int32} : f_N_read (cPut b σ G) (b + 12) i = rI (rd 31 (σ.1 5) i) (cPut b σ G) := by
  simp only [f_N_read, c_fa_12_0, c_len_5, c_ld_5, rd]
  by_cases h1 : i < 0
  · rw [if_pos h1, if_pos h1]
  · rw [if_neg h1, if_neg h1]
    by_cases h2 : nI 31 ≤ i
    · rw [if_pos h2, if_pos h2]
    · rw [if_neg h2, if_neg h2, if_pos (gIn_of h1 h2 (by decide))]
theorem c_wr_5 {i x : Int32} : f_N_write (cPut b σ G) (b + 12) i x = rV (cPut b (wr σ 5 31 i x) G) := by
  simp only [f_N_write, c_fa_12_0, c_len_5, c_st_5, wr]
  by_cases h1 : i < 0
  · rw [if_pos h1, if_pos h1]
  · rw [if_neg h1, if_neg h1]
    by_cases h2 : nI 31 ≤ i
    · rw [if_pos h2, if_pos h2]
    · rw [if_neg h2, if_neg h2, if_pos (gIn_of h1 h2 (by decide))]
theorem c_len_6 {f : Int32 → gR} : gLen (cPut b σ G) (b + 16) 100 f = f (nI 3) := by
  have h := (cPut_at (b := b) (σ := σ) (G := G) (j := 16) (by decide))
  unfold gLen gAr
  rw [h]
  rfl
theorem c_ld_6 {f : Int32 → gR} {i : Int32} : gLd (cPut b σ G) (b + 16) 100 i f = if gIn i 3 = true then f (σ.1 6 i.toNatClampNeg) else none := by
  have h := (cPut_at (b := b) (σ := σ) (G := G) (j := 16) (by decide))
  unfold gLd gAr
  rw [h]
  rfl
theorem c_st_6 {f : gH → gR} {i x : Int32} : gSt (cPut b σ G) (b + 16) 100 i x f = if gIn i 3 = true then f (cPut b (cSet σ 6 i.toNatClampNeg x) G) else none := by
  have h := (cPut_at (b := b) (σ := σ) (G := G) (j := 16) (by decide))
  unfold gSt gArW
  rw [h]
  have e : gUp (cPut b σ G) (b + 16) (zI 100 3 (upd (σ.1 6) i.toNatClampNeg x)) = cPut b (cSet σ 6 i.toNatClampNeg x) G := by
    refine cUp (j := 16) (by decide) (by simp [cEnc, cSet]) (fun i hi hne => ?_)
    rcases i with _ | _ | _ | _ | _ | _ | _ | _ | _ | _ | _ | _ | _ | _ | _ | _ | _ | _ | _ | _ | _ | _ | _ | _
    all_goals first | (exact absurd rfl hne) | rfl | (simp [cEnc, cSet]; done) | (exfalso; omega)
  rw [← e]
  rfl
theorem c_rd_6 {i : Int32} : f_N_read (cPut b σ G) (b + 15) i = rI (rd 3 (σ.1 6) i) (cPut b σ G) := by
  simp only [f_N_read, c_fa_15_0, c_len_6, c_ld_6, rd]
  by_cases h1 : i < 0
  · rw [if_pos h1, if_pos h1]
  · rw [if_neg h1, if_neg h1]
    by_cases h2 : nI 3 ≤ i
    · rw [if_pos h2, if_pos h2]
    · rw [if_neg h2, if_neg h2, if_pos (gIn_of h1 h2 (by decide))]
theorem c_wr_6 {i x : Int32} : f_N_write (cPut b σ G) (b + 15) i x = rV (cPut b (wr σ 6 3 i x) G) := by
  simp only [f_N_write, c_fa_15_0, c_len_6, c_st_6, wr]
  by_cases h1 : i < 0
  · rw [if_pos h1, if_pos h1]
  · rw [if_neg h1, if_neg h1]
    by_cases h2 : nI 3 ≤ i
    · rw [if_pos h2, if_pos h2]
    · rw [if_neg h2, if_neg h2, if_pos (gIn_of h1 h2 (by decide))]
theorem c_len_7 {f : Int32 → gR} : gLen (cPut b σ G) (b + 18) 100 f = f (nI 3) := by
  have h := (cPut_at (b := b) (σ := σ) (G := G) (j := 18) (by decide))
  unfold gLen gAr
  rw [h]
  rfl
theorem c_ld_7 {f : Int32 → gR} {i : Int32} : gLd (cPut b σ G) (b + 18) 100 i f = if gIn i 3 = true then f (σ.1 7 i.toNatClampNeg) else none := by
  have h := (cPut_at (b := b) (σ := σ) (G := G) (j := 18) (by decide))
  unfold gLd gAr
  rw [h]
  rfl
theorem c_st_7 {f : gH → gR} {i x : Int32} : gSt (cPut b σ G) (b + 18) 100 i x f = if gIn i 3 = true then f (cPut b (cSet σ 7 i.toNatClampNeg x) G) else none := by
  have h := (cPut_at (b := b) (σ := σ) (G := G) (j := 18) (by decide))
  unfold gSt gArW
  rw [h]
  have e : gUp (cPut b σ G) (b + 18) (zI 100 3 (upd (σ.1 7) i.toNatClampNeg x)) = cPut b (cSet σ 7 i.toNatClampNeg x) G := by
    refine cUp (j := 18) (by decide) (by simp [cEnc, cSet]) (fun i hi hne => ?_)
    rcases i with _ | _ | _ | _ | _ | _ | _ | _ | _ | _ | _ | _ | _ | _ | _ | _ | _ | _ | _ | _ | _ | _ | _ | _
    all_goals first | (exact absurd rfl hne) | rfl | (simp [cEnc, cSet]; done) | (exfalso; omega)
  rw [← e]
  rfl
theorem c_rd_7 {i : Int32} : f_N_read (cPut b σ G) (b + 17) i = rI (rd 3 (σ.1 7) i) (cPut b σ G) := by
  simp only [f_N_read, c_fa_17_0, c_len_7, c_ld_7, rd]
  by_cases h1 : i < 0
  · rw [if_pos h1, if_pos h1]
  · rw [if_neg h1, if_neg h1]
    by_cases h2 : nI 3 ≤ i
    · rw [if_pos h2, if_pos h2]
    · rw [if_neg h2, if_neg h2, if_pos (gIn_of h1 h2 (by decide))]
theorem c_wr_7 {i x : Int32} : f_N_write (cPut b σ G) (b + 17) i x = rV (cPut b (wr σ 7 3 i x) G) := by
  simp only [f_N_write, c_fa_17_0, c_len_7, c_st_7, wr]
  by_cases h1 : i < 0
  · rw [if_pos h1, if_pos h1]
  · rw [if_neg h1, if_neg h1]
    by_cases h2 : nI 3 ≤ i
    · rw [if_pos h2, if_pos h2]
    · rw [if_neg h2, if_neg h2, if_pos (gIn_of h1 h2 (by decide))]
theorem c_len_8 {f : Int32 → gR} : gLen (cPut b σ G) (b + 20) 100 f = f (nI 3) := by
  have h := (cPut_at (b := b) (σ := σ) (G := G) (j := 20) (by decide))
  unfold gLen gAr
  rw [h]
  rfl
theorem c_ld_8 {f : Int32 → gR} {i : Int32} : gLd (cPut b σ G) (b + 20) 100 i f = if gIn i 3 = true then f (σ.1 8 i.toNatClampNeg) else none := by
  have h := (cPut_at (b := b) (σ := σ) (G := G) (j := 20) (by decide))
  unfold gLd gAr
  rw [h]
  rfl
theorem c_st_8 {f : gH → gR} {i x : Int32} : gSt (cPut b σ G) (b + 20) 100 i x f = if gIn i 3 = true then f (cPut b (cSet σ 8 i.toNatClampNeg x) G) else none := by
  have h := (cPut_at (b := b) (σ := σ) (G := G) (j := 20) (by decide))
  unfold gSt gArW
  rw [h]
  have e : gUp (cPut b σ G) (b + 20) (zI 100 3 (upd (σ.1 8) i.toNatClampNeg x)) = cPut b (cSet σ 8 i.toNatClampNeg x) G := by
    refine cUp (j := 20) (by decide) (by simp [cEnc, cSet]) (fun i hi hne => ?_)
    rcases i with _ | _ | _ | _ | _ | _ | _ | _ | _ | _ | _ | _ | _ | _ | _ | _ | _ | _ | _ | _ | _ | _ | _ | _
    all_goals first | (exact absurd rfl hne) | rfl | (simp [cEnc, cSet]; done) | (exfalso; omega)
  rw [← e]
  rfl
theorem c_rd_8 {i : Int32} : f_N_read (cPut b σ G) (b + 19) i = rI (rd 3 (σ.1 8) i) (cPut b σ G) := by
  simp only [f_N_read, c_fa_19_0, c_len_8, c_ld_8, rd]
  by_cases h1 : i < 0
  · rw [if_pos h1, if_pos h1]
  · rw [if_neg h1, if_neg h1]
    by_cases h2 : nI 3 ≤ i
    · rw [if_pos h2, if_pos h2]
    · rw [if_neg h2, if_neg h2, if_pos (gIn_of h1 h2 (by decide))]
theorem c_wr_8 {i x : Int32} : f_N_write (cPut b σ G) (b + 19) i x = rV (cPut b (wr σ 8 3 i x) G) := by
  simp only [f_N_write, c_fa_19_0, c_len_8, c_st_8, wr]
  by_cases h1 : i < 0
  · rw [if_pos h1, if_pos h1]
  · rw [if_neg h1, if_neg h1]
    by_cases h2 : nI 3 ≤ i
    · rw [if_pos h2, if_pos h2]
    · rw [if_neg h2, if_neg h2, if_pos (gIn_of h1 h2 (by decide))]
theorem c_len_9 {f : Int32 → gR} : gLen (cPut b σ G) (b + 22) 100 f = f (nI 3) := by
  have h := (cPut_at (b := b) (σ := σ) (G := G) (j := 22) (by decide))
  unfold gLen gAr
  rw [h]
  rfl
theorem c_ld_9 {f : Int32 → gR} {i : Int32} : gLd (cPut b σ G) (b + 22) 100 i f = if gIn i 3 = true then f (σ.1 9 i.toNatClampNeg) else none := by
  have h := (cPut_at (b := b) (σ := σ) (G := G) (j := 22) (by decide))
  unfold gLd gAr
  rw [h]
  rfl
theorem c_st_9 {f : gH → gR} {i x : Int32} : gSt (cPut b σ G) (b + 22) 100 i x f = if gIn i 3 = true then f (cPut b (cSet σ 9 i.toNatClampNeg x) G) else none := by
  have h := (cPut_at (b := b) (σ := σ) (G := G) (j := 22) (by decide))
  unfold gSt gArW
  rw [h]
  have e : gUp (cPut b σ G) (b + 22) (zI 100 3 (upd (σ.1 9) i.toNatClampNeg x)) = cPut b (cSet σ 9 i.toNatClampNeg x) G := by
    refine cUp (j := 22) (by decide) (by simp [cEnc, cSet]) (fun i hi hne => ?_)
    rcases i with _ | _ | _ | _ | _ | _ | _ | _ | _ | _ | _ | _ | _ | _ | _ | _ | _ | _ | _ | _ | _ | _ | _ | _
    all_goals first | (exact absurd rfl hne) | rfl | (simp [cEnc, cSet]; done) | (exfalso; omega)
  rw [← e]
  rfl
theorem c_rd_9 {i : Int32} : f_N_read (cPut b σ G) (b + 21) i = rI (rd 3 (σ.1 9) i) (cPut b σ G) := by
  simp only [f_N_read, c_fa_21_0, c_len_9, c_ld_9, rd]
  by_cases h1 : i < 0
  · rw [if_pos h1, if_pos h1]
  · rw [if_neg h1, if_neg h1]
    by_cases h2 : nI 3 ≤ i
    · rw [if_pos h2, if_pos h2]
    · rw [if_neg h2, if_neg h2, if_pos (gIn_of h1 h2 (by decide))]
theorem c_wr_9 {i x : Int32} : f_N_write (cPut b σ G) (b + 21) i x = rV (cPut b (wr σ 9 3 i x) G) := by
  simp only [f_N_write, c_fa_21_0, c_len_9, c_st_9, wr]
  by_cases h1 : i < 0
  · rw [if_pos h1, if_pos h1]
  · rw [if_neg h1, if_neg h1]
    by_cases h2 : nI 3 ≤ i
    · rw [if_pos h2, if_pos h2]
    · rw [if_neg h2, if_neg h2, if_pos (gIn_of h1 h2 (by decide))]
end CPut
theorem bI_rI {x : Int32} {G : gH} {k : Int32 → gH → gR} : bI (rI x G) k = k x G := rfl
theorem bL_rL {x : Int64} {G : gH} {k : Int64 → gH → gR} : bL (rL x G) k = k x G := rfl
theorem bA_rA {x : Nat} {G : gH} {k : Nat → gH → gR} : bA (rA x G) k = k x G := rfl
theorem bV_rV {G : gH} {k : gH → gR} : bV (rV G) k = k G := rfl
theorem bI_th {E : String} {G : gH} {k : Int32 → gH → gR} : bI (gThrow E G) k = gThrow E G := rfl
theorem bL_th {E : String} {G : gH} {k : Int64 → gH → gR} : bL (gThrow E G) k = gThrow E G := rfl
theorem bA_th {E : String} {G : gH} {k : Nat → gH → gR} : bA (gThrow E G) k = gThrow E G := rfl
theorem bV_th {E : String} {G : gH} {k : gH → gR} : bV (gThrow E G) k = gThrow E G := rfl
theorem rZ_0 {G : gH} : rZ (nI 0) G = rI 0 G := by unfold rZ; rw [if_pos (show (nI 0 = 0 ∨ nI 0 = 1) from Or.inl rfl)]; rfl
theorem rZ_1 {G : gH} : rZ (nI 1) G = rI 1 G := by unfold rZ; rw [if_pos (show (nI 1 = 0 ∨ nI 1 = 1) from Or.inr rfl)]; rfl
theorem bI_ite {c : Prop} [Decidable c] {A B : gR} {k : Int32 → gH → gR} : bI (if c then A else B) k = if c then bI A k else bI B k := by split <;> rfl
theorem bV_ite {c : Prop} [Decidable c] {A B : gR} {k : gH → gR} : bV (if c then A else B) k = if c then bV A k else bV B k := by split <;> rfl
end
section
/-! ArrayList on the abstract heap. -/
/-- every entry lies below the heap's size -/
def gWf (G : gH) : Prop := ∀ (q : Nat) (e : zE), G.2.2 q = some e → q < G.2.1
theorem gWf.up {G : gH} (h : gWf G) {a : Nat} {e : zE} (ha : a < G.2.1) : gWf (gUp G a e) := by
  intro q e' hq
  simp only [gUp, zUp] at hq ⊢
  by_cases hqa : q = a
  · rw [hqa]; exact ha
  · rw [if_neg hqa] at hq; exact h q e' hq
theorem gWf.new {G : gH} (h : gWf G) {n : Nat} {e : zE} : gWf (gNew G n e) := by
  intro q e' hq
  simp only [gNew, zNew] at hq ⊢
  by_cases hqa : q = G.2.1
  · omega
  · rw [if_neg hqa] at hq
    have := h q e' hq
    omega
theorem gUp_at {G : gH} {a : Nat} {e : zE} : (gUp G a e).2.2 a = some e := by simp [gUp, zUp]
theorem gUp_ne {G : gH} {a q : Nat} {e : zE} (h : q ≠ a) : (gUp G a e).2.2 q = G.2.2 q := by simp [gUp, zUp, h]
theorem gNew_at {G : gH} {n : Nat} {e : zE} : (gNew G n e).2.2 G.2.1 = some e := by simp [gNew, zNew]
theorem gNew_ne {G : gH} {n q : Nat} {e : zE} (h : q ≠ G.2.1) : (gNew G n e).2.2 q = G.2.2 q := by simp [gNew, zNew, h]
/-- from G to G' nothing but what P names has changed; k more cells of n slots at most -/
def gFr (P : Nat → Prop) (k n : Nat) (G G' : gH) : Prop := G.2.1 ≤ G'.2.1 ∧ G'.2.1 ≤ G.2.1 + k ∧ G.1 ≤ G'.1 ∧ G'.1 ≤ G.1 + n ∧ (gWf G → gWf G') ∧ ∀ q, q < G.2.1 → ¬ P q → G'.2.2 q = G.2.2 q
theorem gFr.refl {P : Nat → Prop} {G : gH} : gFr P 0 0 G G := ⟨Nat.le_refl _, Nat.le_refl _, Nat.le_refl _, Nat.le_refl _, fun h => h, fun _ _ _ => rfl⟩
theorem gFr.trans {P : Nat → Prop} {k n k' n' : Nat} {G G1 G2 : gH} (h1 : gFr P k n G G1) (h2 : gFr P k' n' G1 G2) : gFr P (k + k') (n + n') G G2 := by
  obtain ⟨a1, a2, a3, a4, a5, a6⟩ := h1
  obtain ⟨b1, b2, b3, b4, b5, b6⟩ := h2
  exact ⟨by omega, by omega, by omega, by omega, fun h => b5 (a5 h), fun q hq hp => (b6 q (by omega) hp).trans (a6 q hq hp)⟩
theorem gFr.mono {P P' : Nat → Prop} {k n k' n' : Nat} {G G' : gH} (h : gFr P k n G G') (hP : ∀ q, q < G.2.1 → P q → P' q) (hk : k ≤ k') (hn : n ≤ n') : gFr P' k' n' G G' := by
  obtain ⟨a1, a2, a3, a4, a5, a6⟩ := h
  exact ⟨a1, by omega, a3, by omega, a5, fun q hq hp => a6 q hq (fun z => hp (hP q hq z))⟩
theorem gFr.up {G : gH} {a : Nat} {e : zE} (ha : a < G.2.1) : gFr (fun q => q = a) 0 0 G (gUp G a e) :=
  ⟨Nat.le_refl _, Nat.le_refl _, Nat.le_refl _, Nat.le_refl _, fun h => h.up ha, fun q _ hp => gUp_ne hp⟩
theorem gFr.new {P : Nat → Prop} {G : gH} {n : Nat} {e : zE} : gFr P 1 n G (gNew G n e) :=
  ⟨Nat.le_succ _, Nat.le_refl _, Nat.le_add_right _ _, Nat.le_refl _, fun h => h.new, fun q hq _ => gNew_ne (by omega)⟩
-- the combinators at known cells
theorem gOb_of {G : gH} {a ci c : Nat} {fs : List Value} {k : List Value → gR} (h : G.2.2 a = some (.inr (c, fs))) (hc : c % 1000 = ci) : gOb G a ci k = k fs := by
  unfold gOb; rw [h]; simp [hc]
theorem gFA_of {G : gH} {a ci c j v : Nat} {fs : List Value} {k : Nat → gR} (h : G.2.2 a = some (.inr (c, fs))) (hc : c % 1000 = ci) (hv : fs[j]? = some (.ref v)) : gFA G a ci j k = k v := by
  unfold gFA; rw [gOb_of h hc]; simp only [hv]
theorem gFI_of {G : gH} {a ci c j : Nat} {v : Int32} {fs : List Value} {k : Int32 → gR} (h : G.2.2 a = some (.inr (c, fs))) (hc : c % 1000 = ci) (hv : fs[j]? = some (.int v)) : gFI G a ci j k = k v := by
  unfold gFI; rw [gOb_of h hc]; simp only [hv]
theorem gPut_of {G : gH} {a ci j : Nat} {v : Value} {fs : List Value} {k : gH → gR} (h : G.2.2 a = some (.inr (ci, fs))) (hj : j < fs.length) : gPut G a ci j v k = k (gUp G a (.inr (ci, fs.set j v))) := by
  unfold gPut gObW; rw [h]; simp [hj]
theorem gLenq_of {G : gH} {a ka c n : Nat} {f : Nat → Option Nat} {k : Int32 → gR} (h : G.2.2 a = some (zQ c n f)) (hc : c % 1000 = ka) : gLenq G a ka k = k (nI n) := by
  unfold gLenq gAq; rw [h]; simp [hc]
theorem gIn_nI {i n : Nat} (hi : i < n) (hn : n < 2 ^ 31) : gIn (nI i) n = true := by
  simp only [gIn, nI_clamp (Nat.lt_trans hi hn), Bool.not_eq_true', Bool.or_eq_false_iff, decide_eq_false_iff_not]
  exact ⟨nI_pos (Nat.lt_trans hi hn), by omega⟩
theorem gLdq_of {G : gH} {a ka c n i b : Nat} {f : Nat → Option Nat} {k0 : gR} {k1 : Nat → gR} (h : G.2.2 a = some (zQ c n f)) (hc : c % 1000 = ka) (hi : i < n) (hn : n < 2 ^ 31) (hb : f i = some b) : gLdq G a ka (nI i) k0 k1 = k1 b := by
  unfold gLdq gAq; rw [h]; simp [hc, gIn_nI hi hn, nI_clamp (Nat.lt_trans hi hn), hb]
theorem gLdq_no {G : gH} {a ka c n i : Nat} {f : Nat → Option Nat} {k0 : gR} {k1 : Nat → gR} (h : G.2.2 a = some (zQ c n f)) (hc : c % 1000 = ka) (hi : i < n) (hn : n < 2 ^ 31) (hb : f i = none) : gLdq G a ka (nI i) k0 k1 = k0 := by
  unfold gLdq gAq; rw [h]; simp [hc, gIn_nI hi hn, nI_clamp (Nat.lt_trans hi hn), hb]
theorem gStX_of {G : gH} {a n i b : Nat} {f : Nat → Option Nat} {k : gH → gR} (h : G.2.2 a = some (zQ 103 n f)) (hi : i < n) (hn : n < 2 ^ 31) (hb : (∃ fs, G.2.2 b = some (.inr (9, fs))) ∨ ∃ m g, G.2.2 b = some (zI 100 m g)) : gStX G a 103 (nI i) b k = k (gUp G a (zQ 103 n (va_up f i (some b)))) := by
  rcases hb with ⟨fs, hb⟩ | ⟨m, g, hb⟩
  · unfold gStX; rw [hb]
    simp only [gStq, gAqW, h, if_true, gIn_nI hi hn, nI_clamp (Nat.lt_trans hi hn)]
    rw [gOb_of hb rfl]
  · unfold gStX; rw [hb]
    simp only [gStA, gAqW, h, if_true, gIn_nI hi hn, nI_clamp (Nat.lt_trans hi hn), gAr, hb]
theorem gStN_of {G : gH} {a n i : Nat} {f : Nat → Option Nat} {k : gH → gR} (h : G.2.2 a = some (zQ 103 n f)) (hi : i < n) (hn : n < 2 ^ 31) : gStN G a 103 (nI i) k = k (gUp G a (zQ 103 n (va_up f i none))) := by
  unfold gStN gAqW; rw [h]; simp [gIn_nI hi hn, nI_clamp (Nat.lt_trans hi hn)]
/-- what may lie in a list -/
def gEl (G : gH) (b : Nat) : Prop := (∃ fs, G.2.2 b = some (.inr (9, fs))) ∨ ∃ m g, G.2.2 b = some (zI 100 m g)
/-- the list at a holds xs; its row of cells is at e -/
def isAL (w : Nat → Nat) (G : gH) (a e : Nat) (xs : List Nat) : Prop := ∃ (m : Int32) (κ cap : Nat) (f : Nat → Option Nat), G.2.2 a = some (.inr (9, [.ref e, .int (nI xs.length), .int m])) ∧ G.2.2 e = some (zQ κ cap f) ∧ ((κ = 103 ∧ 0 < cap) ∨ (κ = 1103 ∧ e = w 0 ∧ cap = 0)) ∧ xs.length ≤ cap ∧ cap ≤ 1000 ∧ (∀ i, i < xs.length → f i = xs[i]?) ∧ ∀ i, i < xs.length → ∀ y, f i = some y → gEl G y
theorem ckIx {i n : Nat} {G : gH} (hi : i < n) (hn : n < 2 ^ 31) : f_OB_checkIndex G (nI i) (nI n) = rI (nI i) G := by
  simp only [f_OB_checkIndex, f_PC_checkIndex]
  rw [if_neg (nI_pos (Nat.lt_trans hi hn)), if_pos (nI_lt hi hn)]
  rfl
theorem al_size {w : Nat → Nat} {G : gH} {a e : Nat} {xs : List Nat} (h : isAL w G a e xs) : f_AL_size G a = rI (nI xs.length) G := by
  obtain ⟨m, κ, cap, f, h1, -⟩ := h
  unfold f_AL_size
  exact gFI_of h1 rfl rfl
theorem al_get {w : Nat → Nat} {G : gH} {a e i x : Nat} {xs : List Nat} (h : isAL w G a e xs) (hx : xs[i]? = some x) : f_AL_get G a (nI i) = rA x G := by
  obtain ⟨m, κ, cap, f, h1, h2, h3, h4, h5, h6, h7⟩ := h
  have hi : i < xs.length := (List.getElem?_eq_some_iff.mp hx).1
  unfold f_AL_get
  rw [gFI_of h1 rfl rfl, ckIx hi (by omega)]
  show gOb G a 9 _ = _
  rw [gOb_of h1 rfl]
  unfold f_AL_elementData
  rw [gFA_of h1 rfl rfl, gLdq_of h2 (by rcases h3 with ⟨rfl, -⟩ | ⟨rfl, -⟩ <;> rfl) (by omega) (by omega) ((h6 i hi).trans hx)]
  rfl
theorem gNewQ_of {G : gH} {ka n : Nat} {k : Nat → gH → gR} (hn : n ≤ 60000000) : gNewQ G ka (nI n) k = k G.2.1 (gNew G n (zQ ka n (fun _ => none))) := by
  have e : (nI n).toNatClampNeg = n := nI_clamp (by omega)
  unfold gNewQ
  rw [if_pos ⟨nI_pos (by omega), by rw [e]; exact hn⟩, e]
theorem gElt_of {G : gH} {y : Nat} (h : gEl G y) : gElt G y = true := by
  rcases h with ⟨fs, h⟩ | ⟨m, g, h⟩ <;> simp [gElt, h]
theorem gCpQ_of {G : gH} {a0 a1 c n0 n1 sp dp n : Nat} {f g : Nat → Option Nat} {k : gH → gR} (h0 : G.2.2 a0 = some (zQ c n0 f)) (hc : c % 1000 = 103) (h1 : G.2.2 a1 = some (zQ 103 n1 g)) (b0 : sp + n ≤ n0) (b1 : dp + n ≤ n1) (hn0 : n0 < 2 ^ 30) (hn1 : n1 < 2 ^ 30)
    (hel : ∀ i, i < n → ∀ y, f (sp + i) = some y → gEl G y) : gCpQ G a0 (nI sp) a1 (nI dp) (nI n) k = k (gUp G a1 (zQ 103 n1 (va_cpy f g sp dp n))) := by
  have e1 : (nI sp).toNatClampNeg = sp := nI_clamp (by omega)
  have e2 : (nI dp).toNatClampNeg = dp := nI_clamp (by omega)
  have e3 : (nI n).toNatClampNeg = n := nI_clamp (by omega)
  have hbnd : gBnd (nI sp) (nI dp) (nI n) n0 n1 = true := by
    unfold gBnd
    rw [e1, e2, e3, decide_eq_true (nI_pos (n := sp) (by omega)), decide_eq_true (nI_pos (n := dp) (by omega)), decide_eq_true (nI_pos (n := n) (by omega)), decide_eq_true b0, decide_eq_true b1]
    rfl
  have hall : ((List.range n).all fun i => gEltO G (f (sp + i))) = true := by
    rw [List.all_eq_true]
    intro i hi
    cases hy : f (sp + i) with
    | none => rfl
    | some y => exact gElt_of (hel i (List.mem_range.mp hi) y hy)
  unfold gCpQ gAq gAqW
  rw [h0, h1]
  simp only [hc, if_true, e1, e2, e3]
  rw [if_pos ⟨hbnd, hall⟩]
theorem gEl.fr {P : Nat → Prop} {k n : Nat} {G G' : gH} (h : gFr P k n G G') (hw : gWf G) {y : Nat} (hy : gEl G y) (hp : ¬ P y) : gEl G' y := by
  obtain ⟨-, -, -, -, -, h6⟩ := h
  rcases hy with ⟨fs, hy⟩ | ⟨m, g, hy⟩
  · exact Or.inl ⟨fs, by rw [h6 y (hw _ _ hy) hp]; exact hy⟩
  · exact Or.inr ⟨m, g, by rw [h6 y (hw _ _ hy) hp]; exact hy⟩
/-- a list or a row of ints stays one, whatever is written into it -/
def gKeep (G G' : gH) : Prop := ∀ y, gEl G y → gEl G' y
theorem gCaQ_of {G : gH} {a ka c n : Nat} {f : Nat → Option Nat} {k : gR} (h : G.2.2 a = some (zQ c n f)) (hc : c % 1000 = ka) : gCaQ G a ka k = k := by
  unfold gCaQ gAq; rw [h]; simp [hc]
theorem gr_len : ∀ len, len < 41 → 0 < len → (nI len + (if (nI (len + 1) - nI len) < (nI len >>> ((nI 1) &&& 31)) then (nI len >>> ((nI 1) &&& 31)) else (nI (len + 1) - nI len))) = nI (len + (if 1 < len / 2 then len / 2 else 1)) := by decide +kernel
theorem al_grow {w : Nat → Nat} {G : gH} {a e cap κ : Nat} {len : Nat} {m : Int32} {f : Nat → Option Nat} (hw : gWf G) (h1 : G.2.2 a = some (.inr (9, [.ref e, .int (nI len), .int m]))) (h2 : G.2.2 e = some (zQ κ cap f)) (h3 : (κ = 103 ∧ 0 < cap) ∨ (κ = 1103 ∧ e = w 0 ∧ cap = 0)) (hl : len = cap) (hb : len ≤ 40)
    (hel : ∀ i, i < len → ∀ y, f i = some y → gEl G y) :
    ∃ (cap' : Nat) (f' : Nat → Option Nat) (G' : gH), len < cap' ∧ cap' ≤ 61 ∧ (∀ i, i < len → f' i = f i) ∧ f_AL_grow1 w G a = rA G.2.1 G' ∧ G'.2.2 a = some (.inr (9, [.ref G.2.1, .int (nI len), .int m])) ∧ G'.2.2 G.2.1 = some (zQ 103 cap' f') ∧ gFr (fun q => q = a) 1 61 G G' := by
  subst hl
  have ha : a < G.2.1 := hw _ _ h1
  have he : e < G.2.1 := hw _ _ h2
  have hk : κ % 1000 = 103 := by rcases h3 with ⟨rfl, -⟩ | ⟨rfl, -⟩ <;> rfl
  have e1 : nI len + nI 1 = nI (len + 1) := nI_add _ _
  have hgrow : ∃ (cap' : Nat) (f' : Nat → Option Nat) (G' : gH), len < cap' ∧ cap' ≤ 61 ∧ (∀ i, i < len → f' i = f i) ∧ f_AL_grow2 w G a (nI (len + 1)) = rA G.2.1 G' ∧ G'.2.2 a = some (.inr (9, [.ref G.2.1, .int (nI len), .int m])) ∧ G'.2.2 G.2.1 = some (zQ 103 cap' f') ∧ gFr (fun q => q = a) 1 61 G G' := by
    unfold f_AL_grow2
    rw [gFA_of h1 rfl rfl, gLenq_of h2 hk]
    by_cases hz : len = 0
    · subst hz
      have hew : e = w 0 := by
        rcases h3 with ⟨-, h⟩ | ⟨-, h, -⟩
        · omega
        · exact h
      refine ⟨10, fun _ => none, gUp (gNew G 10 (zQ 103 10 (fun _ => none))) a (.inr (9, [.ref G.2.1, .int (nI 0), .int m])), by omega, by omega, fun i hi => by omega, ?_, gUp_at, ?_, ?_⟩
      · rw [if_neg (show ¬ (0 : Int32) < nI 0 by decide), gFA_of h1 rfl rfl, if_pos hew, show (if nI 10 < nI (0 + 1) then nI (0 + 1) else nI 10) = nI 10 by decide, gNewQ_of (by omega), gPut_of (fs := [.ref e, .int (nI 0), .int m]) (by rw [gNew_ne (by omega)]; exact h1) (by simp)]
        rfl
      · rw [gUp_ne (by omega)]; exact gNew_at
      · refine ((gFr.new (P := fun q => q = a)).trans (gFr.up (G := gNew G 10 _) (a := a) (by show a < G.2.1 + 1; omega))).mono (fun q _ h => h) (by omega) (by omega)
    · have hκ : κ = 103 := by
        rcases h3 with ⟨h, -⟩ | ⟨-, -, h⟩
        · exact h
        · omega
      subst hκ
      generalize hc : len + (if 1 < len / 2 then len / 2 else 1) = cap'
      have hc1 : len < cap' := by rw [← hc]; split <;> omega
      have hc2 : cap' ≤ 61 := by rw [← hc]; split <;> omega
      have hgl := gr_len len (by omega) (by omega)
      rw [hc] at hgl
      refine ⟨cap', va_cpy f (fun _ => none) 0 0 len, gUp (gUp (gNew G cap' (zQ 103 cap' (fun _ => none))) G.2.1 (zQ 103 cap' (va_cpy f (fun _ => none) 0 0 len))) a (.inr (9, [.ref G.2.1, .int (nI len), .int m])), hc1, hc2, ?_, ?_, gUp_at, ?_, ?_⟩
      · intro i hi
        simp [va_cpy, hi]
      · rw [if_pos (show (0 : Int32) < nI len from nI_lt (a := 0) (by omega) (by omega))]
        unfold f_AS_newLength
        rw [hgl, if_neg (show ¬ nI cap' ≤ nI 0 from nI_ge (by omega) (by omega)), if_neg (nI_nlt (by omega) (by decide))]
        show gFA G a 9 0 _ = _
        rw [gFA_of h1 rfl rfl]
        unfold f_AR_copyOf2
        rw [gCaQ_of h2 rfl]
        unfold f_AR_copyOf3
        rw [if_pos rfl, gNewQ_of (by omega), gLenq_of (c := 103) (n := len) (f := f) (by rw [gNew_ne (by omega)]; exact h2) rfl, if_neg (nI_nlt (by omega) (by omega))]
        rw [gCpQ_of (c := 103) (n0 := len) (n1 := cap') (f := f) (g := fun _ => none) (by rw [gNew_ne (by omega)]; exact h2) rfl gNew_at (by omega) (by omega) (by omega) (by omega) (fun i hi y hy => ?_)]
        · show gPut _ a 9 0 _ _ = _
          rw [gPut_of (fs := [.ref e, .int (nI len), .int m]) (by rw [gUp_ne (by omega), gNew_ne (by omega)]; exact h1) (by simp)]
          rfl
        · rw [Nat.zero_add] at hy
          exact (hel i hi y hy).fr (gFr.new (P := fun _ => False)) hw (fun h => h)
      · rw [gUp_ne (by omega)]; exact gUp_at
      · refine ⟨Nat.le_succ _, Nat.le_refl _, Nat.le_add_right _ _, Nat.add_le_add_left hc2 _, fun h => ?_, fun q hq hp => ?_⟩
        · exact (h.new.up (Nat.lt_succ_self _)).up (Nat.lt_succ_of_lt ha)
        · rw [gUp_ne hp, gUp_ne (by omega), gNew_ne (by omega)]
  obtain ⟨cap', f', G', g1, g2, g3, g4, g5⟩ := hgrow
  refine ⟨cap', f', G', g1, g2, g3, ?_, g5⟩
  unfold f_AL_grow1
  rw [gFI_of h1 rfl rfl, gOb_of h1 rfl, e1, g4]
  rfl
theorem zQ_inj {c c' n n' : Nat} {f f' : Nat → Option Nat} (h : some (zQ c n f) = some (zQ c' n' f')) : c = c' ∧ n = n' ∧ f = f' := by cases h; exact ⟨rfl, rfl, rfl⟩
/-- writing into a row of references leaves what may lie in lists -/
theorem gEl.upQ {G : gH} {e n c : Nat} {f g : Nat → Option Nat} (he : G.2.2 e = some (zQ c n f)) {y : Nat} (hy : gEl G y) : gEl (gUp G e (zQ 103 n g)) y := by
  rcases hy with ⟨fs, hz⟩ | ⟨k, g, hz⟩
  · by_cases hze : y = e
    · subst hze; rw [he] at hz; cases hz
    · exact Or.inl ⟨fs, by rw [gUp_ne hze]; exact hz⟩
  · by_cases hze : y = e
    · subst hze; rw [he] at hz; cases hz
    · exact Or.inr ⟨k, g, by rw [gUp_ne hze]; exact hz⟩
theorem gEl.upA {G : gH} {a : Nat} {fs fs' : List Value} (ha : G.2.2 a = some (.inr (9, fs))) {y : Nat} (hy : gEl G y) : gEl (gUp G a (.inr (9, fs'))) y := by
  by_cases hze : y = a
  · exact Or.inl ⟨fs', by rw [hze]; exact gUp_at⟩
  · rcases hy with ⟨fs, hz⟩ | ⟨k, g, hz⟩
    · exact Or.inl ⟨fs, by rw [gUp_ne hze]; exact hz⟩
    · exact Or.inr ⟨k, g, by rw [gUp_ne hze]; exact hz⟩
theorem al_set {w : Nat → Nat} {G : gH} {a e i x y : Nat} {xs : List Nat} (h : isAL w G a e xs) (hx : xs[i]? = some x) (hy : gEl G y) : ∃ (cap : Nat) (f : Nat → Option Nat), G.2.2 e = some (zQ 103 cap f) ∧ f_AL_set G a (nI i) y = rA x (gUp G e (zQ 103 cap (va_up f i (some y)))) := by
  obtain ⟨m, κ, cap, f, h1, h2, h3, h4, h5, h6, h7⟩ := h
  have hi : i < xs.length := (List.getElem?_eq_some_iff.mp hx).1
  have hκ : κ = 103 := by
    rcases h3 with ⟨h, -⟩ | ⟨-, -, h⟩
    · exact h
    · omega
  subst hκ
  refine ⟨cap, f, h2, ?_⟩
  unfold f_AL_set
  rw [gFI_of h1 rfl rfl, ckIx hi (by omega)]
  show gOb G a 9 _ = _
  rw [gOb_of h1 rfl]
  unfold f_AL_elementData
  rw [gFA_of h1 rfl rfl, gLdq_of h2 rfl (by omega) (by omega) ((h6 i hi).trans hx)]
  show gFA G a 9 0 _ = _
  rw [gFA_of h1 rfl rfl, gStX_of h2 (by omega) (by omega) hy]
/-- .. and what the list is then -/
theorem isAL.set {w : Nat → Nat} {G : gH} {a e i y cap : Nat} {f : Nat → Option Nat} {xs : List Nat} (h : isAL w G a e xs) (hi : i < xs.length) (hy : gEl G y) (he : G.2.2 e = some (zQ 103 cap f)) (hae : a ≠ e) : isAL w (gUp G e (zQ 103 cap (va_up f i (some y)))) a e (xs.set i y) := by
  obtain ⟨m, κ, cap', f', h1, h2, h3, h4, h5, h6, h7⟩ := h
  obtain ⟨rfl, rfl, rfl⟩ := zQ_inj (h2.symm.trans he)
  refine ⟨m, 103, cap', va_up f' i (some y), ?_, gUp_at, Or.inl ⟨rfl, by omega⟩, by simpa using h4, h5, ?_, ?_⟩
  · rw [gUp_ne hae, List.length_set]; exact h1
  · intro j hj
    rw [List.length_set] at hj
    by_cases hji : j = i
    · subst hji
      simp [va_up, List.getElem?_set_self hi]
    · simp only [va_up, if_neg hji]
      rw [h6 j hj, List.getElem?_set_ne (fun q => hji q.symm)]
  · intro j hj z hz
    rw [List.length_set] at hj
    by_cases hji : j = i
    · subst hji
      simp [va_up] at hz
      subst hz
      exact hy.upQ h2
    · simp only [va_up, if_neg hji] at hz
      exact (h7 j hj z hz).upQ h2
/-- put at the end -/
theorem al_add {w : Nat → Nat} {G : gH} {a e y : Nat} {xs : List Nat} (hw : gWf G) (h : isAL w G a e xs) (hl : xs.length ≤ 40) (hy : gEl G y) (hae : a ≠ e) :
    ∃ (e' : Nat) (G' : gH), f_AL_add2 w G a y = rI 1 G' ∧ isAL w G' a e' (xs ++ [y]) ∧ a ≠ e' ∧ ((e' = e ∧ ∃ cap f, G.2.2 e = some (zQ 103 cap f)) ∨ e' = G.2.1) ∧ gFr (fun q => q = a ∨ (q = e ∧ e' = e)) 1 61 G G' ∧ ∀ z, gEl G z → gEl G' z := by
  obtain ⟨m, κ, cap, f, h1, h2, h3, h4, h5, h6, h7⟩ := h
  have ha : a < G.2.1 := hw _ _ h1
  have he : e < G.2.1 := hw _ _ h2
  have hk : κ % 1000 = 103 := by rcases h3 with ⟨rfl, -⟩ | ⟨rfl, -⟩ <;> rfl
  generalize hG2 : gUp G a (.inr (9, [.ref e, .int (nI xs.length), .int (m + nI 1)])) = G2
  have b1 : G2.2.2 a = some (.inr (9, [.ref e, .int (nI xs.length), .int (m + nI 1)])) := by rw [← hG2]; exact gUp_at
  have b2 : G2.2.2 e = some (zQ κ cap f) := by rw [← hG2, gUp_ne (fun q => hae q.symm)]; exact h2
  have bw : gWf G2 := by rw [← hG2]; exact hw.up ha
  have bs : G2.2.1 = G.2.1 := by rw [← hG2]; rfl
  have bel : ∀ z, gEl G z → gEl G2 z := fun z hz => by rw [← hG2]; exact hz.upA h1
  have e1 : nI xs.length + nI 1 = nI (xs.length + 1) := nI_add _ _
  have start : ∀ r, f_AL_add3 w G2 a y e (nI xs.length) = r → f_AL_add2 w G a y = bV r fun G8 => rZ (nI 1) G8 := by
    intro r hr
    unfold f_AL_add2
    have hset : gUp G a (.inr (9, ([.ref e, .int (nI xs.length), .int m] : List Value).set 2 (.int (m + nI 1)))) = G2 := hG2
    rw [gFI_of h1 rfl rfl, gPut_of (ci := 9) h1 (by simp), hset, gFA_of b1 rfl rfl, gFI_of b1 rfl rfl, gOb_of b1 rfl, hr]
  by_cases hfull : xs.length = cap
  · obtain ⟨cap', f', G3, c1, c2, c3, c4, c5, c6, c7⟩ := al_grow (w := w) bw b1 b2 h3 hfull (by omega) (fun i hi z hz => bel z (h7 i hi z hz))
    rw [bs] at c4 c5 c6
    have cel : ∀ z, gEl G z → gEl G3 z := fun z hz => by
      by_cases hza : z = a
      · exact Or.inl ⟨_, by rw [hza]; exact c5⟩
      · exact (bel z hz).fr c7 bw hza
    have hna : a ≠ G.2.1 := by omega
    have c5' : (gUp G3 G.2.1 (zQ 103 cap' (va_up f' xs.length (some y)))).2.2 a = some (.inr (9, [.ref G.2.1, .int (nI xs.length), .int (m + nI 1)])) := by rw [gUp_ne hna]; exact c5
    refine ⟨G.2.1, gUp (gUp G3 G.2.1 (zQ 103 cap' (va_up f' xs.length (some y)))) a (.inr (9, [.ref G.2.1, .int (nI (xs.length + 1)), .int (m + nI 1)])), ?_, ?_, hna, Or.inr rfl, ?_, ?_⟩
    · rw [start _ rfl]
      unfold f_AL_add3
      rw [gLenq_of b2 hk, hfull, if_pos rfl, gOb_of b1 rfl, c4]
      show bV (gStX G3 G.2.1 103 (nI cap) y _) _ = _
      rw [← hfull, gStX_of c6 c1 (by omega) (cel y hy), gPut_of (ci := 9) c5' (by simp), e1]
      exact rZ_1
    · refine ⟨m + nI 1, 103, cap', va_up f' xs.length (some y), ?_, ?_, Or.inl ⟨rfl, by omega⟩, by simp; omega, by omega, ?_, ?_⟩
      · rw [gUp_at, List.length_append]; rfl
      · rw [gUp_ne (fun q => hna q.symm)]; exact gUp_at
      · intro i hi
        rw [List.length_append, List.length_singleton] at hi
        by_cases hix : i = xs.length
        · subst hix; simp [va_up]
        · simp only [va_up, if_neg hix]
          rw [c3 i (by omega), h6 i (by omega), List.getElem?_append_left (by omega)]
      · intro i hi z hz
        rw [List.length_append, List.length_singleton] at hi
        have hz2 : gEl G z := by
          by_cases hix : i = xs.length
          · subst hix; simp [va_up] at hz; subst hz; exact hy
          · simp only [va_up, if_neg hix] at hz
            rw [c3 i (by omega)] at hz
            exact h7 i (by omega) z hz
        exact ((cel z hz2).upQ c6).upA c5'
    · obtain ⟨d1, d2, d3, d4, d5, d6⟩ := c7
      have hs0 : G2.1 = G.1 := by rw [← hG2]; rfl
      rw [bs] at d1 d2
      rw [hs0] at d3 d4
      refine ⟨d1, d2, d3, d4, fun h => ((d5 bw).up (d5 bw _ _ c6)).up (d5 bw _ _ c5), fun q hq hp => ?_⟩
      have hqa : q ≠ a := fun z => hp (Or.inl z)
      rw [gUp_ne hqa, gUp_ne (by omega), d6 q (by omega) hqa, ← hG2, gUp_ne hqa]
    · intro z hz
      exact ((cel z hz).upQ c6).upA c5'
  · have hlt : xs.length < cap := by omega
    have hκ : κ = 103 := by
      rcases h3 with ⟨h, -⟩ | ⟨-, -, h⟩
      · exact h
      · omega
    subst hκ
    refine ⟨e, gUp (gUp G2 e (zQ 103 cap (va_up f xs.length (some y)))) a (.inr (9, [.ref e, .int (nI (xs.length + 1)), .int (m + nI 1)])), ?_, ?_, hae, Or.inl ⟨rfl, cap, f, h2⟩, ?_, ?_⟩
    · rw [start _ rfl]
      unfold f_AL_add3
      rw [gLenq_of b2 rfl, if_neg (fun q => hfull ((nI_eq (by omega) (by omega)).mp q)), gStX_of b2 hlt (by omega) (bel y hy), gPut_of (ci := 9) (fs := [.ref e, .int (nI xs.length), .int (m + nI 1)]) (by rw [gUp_ne hae]; exact b1) (by simp), e1]
      exact rZ_1
    · refine ⟨m + nI 1, 103, cap, va_up f xs.length (some y), ?_, ?_, Or.inl ⟨rfl, by omega⟩, by simp; omega, h5, ?_, ?_⟩
      · rw [gUp_at, List.length_append]; rfl
      · rw [gUp_ne (fun q => hae q.symm)]; exact gUp_at
      · intro i hi
        rw [List.length_append, List.length_singleton] at hi
        by_cases hix : i = xs.length
        · subst hix; simp [va_up]
        · simp only [va_up, if_neg hix]
          rw [h6 i (by omega), List.getElem?_append_left (by omega)]
      · intro i hi z hz
        rw [List.length_append, List.length_singleton] at hi
        have hz2 : gEl G z := by
          by_cases hix : i = xs.length
          · subst hix; simp [va_up] at hz; subst hz; exact hy
          · simp only [va_up, if_neg hix] at hz
            exact h7 i (by omega) z hz
        exact ((bel z hz2).upQ b2).upA (by rw [gUp_ne hae]; exact b1)
    · rw [← hG2]
      refine ⟨Nat.le_refl _, Nat.le_succ _, Nat.le_refl _, Nat.le_add_right _ _, fun h => ((h.up ha).up he).up ha, fun q hq hp => ?_⟩
      rw [gUp_ne (fun z => hp (Or.inl z)), gUp_ne (fun z => hp (Or.inr ⟨z, rfl⟩)), gUp_ne (fun z => hp (Or.inl z))]
    · intro z hz
      exact ((bel z hz).upQ b2).upA (by rw [gUp_ne hae]; exact b1)
/-- takes the one at i out -/
theorem al_remove {w : Nat → Nat} {G : gH} {a e i x : Nat} {xs : List Nat} (hw : gWf G) (h : isAL w G a e xs) (hx : xs[i]? = some x) (hae : a ≠ e) :
    ∃ G' : gH, f_AL_remove G a (nI i) = rA x G' ∧ isAL w G' a e (xs.eraseIdx i) ∧ gFr (fun q => q = a ∨ q = e) 0 0 G G' ∧ ∀ z, gEl G z → gEl G' z := by
  obtain ⟨m, κ, cap, f, h1, h2, h3, h4, h5, h6, h7⟩ := h
  have hi : i < xs.length := (List.getElem?_eq_some_iff.mp hx).1
  have ha : a < G.2.1 := hw _ _ h1
  have he : e < G.2.1 := hw _ _ h2
  have hκ : κ = 103 := by
    rcases h3 with ⟨h, -⟩ | ⟨-, -, h⟩
    · exact h
    · omega
  subst hκ
  generalize hG2 : gUp G a (.inr (9, [.ref e, .int (nI xs.length), .int (m + nI 1)])) = G2
  have b1 : G2.2.2 a = some (.inr (9, [.ref e, .int (nI xs.length), .int (m + nI 1)])) := by rw [← hG2]; exact gUp_at
  have b2 : G2.2.2 e = some (zQ 103 cap f) := by rw [← hG2, gUp_ne (fun q => hae q.symm)]; exact h2
  have bel : ∀ z, gEl G z → gEl G2 z := fun z hz => by rw [← hG2]; exact hz.upA h1
  have e1 : nI xs.length - nI 1 = nI (xs.length - 1) := pk_sub (by omega)
  have e2 : nI i + nI 1 = nI (i + 1) := nI_add _ _
  have e3 : nI (xs.length - 1) - nI i = nI (xs.length - 1 - i) := pk_sub (by omega)
  generalize hfn : va_up (va_cpy f f (i + 1) i (xs.length - 1 - i)) (xs.length - 1) none = fn
  have key : ∃ G' : gH, f_AL_fastRemove G a e (nI i) = rV G' ∧ G'.2.2 a = some (.inr (9, [.ref e, .int (nI (xs.length - 1)), .int (m + nI 1)])) ∧ G'.2.2 e = some (zQ 103 cap fn) ∧ gFr (fun q => q = a ∨ q = e) 0 0 G G' ∧ ∀ z, gEl G z → gEl G' z := by
    have hset : gUp G a (.inr (9, ([.ref e, .int (nI xs.length), .int m] : List Value).set 2 (.int (m + nI 1)))) = G2 := hG2
    unfold f_AL_fastRemove
    rw [gFI_of h1 rfl rfl, gPut_of (ci := 9) h1 (by simp), hset, gFI_of b1 rfl rfl, e1]
    by_cases hlast : xs.length - 1 ≤ i
    · have hi1 : i = xs.length - 1 := by omega
      have hf0 : va_up f (xs.length - 1) none = fn := by
        rw [← hfn]
        congr 1
        funext k
        simp only [va_cpy]
        rw [if_neg (by omega)]
      refine ⟨gUp (gUp G2 a (.inr (9, [.ref e, .int (nI (xs.length - 1)), .int (m + nI 1)]))) e (zQ 103 cap fn), ?_, ?_, gUp_at, ?_, ?_⟩
      · rw [if_pos (nI_le (by omega) (by omega)), gPut_of (ci := 9) b1 (by simp), gStN_of (n := cap) (f := f) (by rw [gUp_ne (fun q => hae q.symm)]; exact b2) (by omega) (by omega), hf0]
        rfl
      · rw [gUp_ne hae]; exact gUp_at
      · rw [← hG2]
        refine ⟨Nat.le_refl _, Nat.le_refl _, Nat.le_refl _, Nat.le_refl _, fun h => ((h.up ha).up ha).up he, fun q hq hp => ?_⟩
        rw [gUp_ne (fun z => hp (Or.inr z)), gUp_ne (fun z => hp (Or.inl z)), gUp_ne (fun z => hp (Or.inl z))]
      · intro z hz
        exact ((bel z hz).upA b1).upQ (c := 103) (n := cap) (f := f) (by rw [gUp_ne (fun q => hae q.symm)]; exact b2)
    · refine ⟨gUp (gUp (gUp G2 e (zQ 103 cap (va_cpy f f (i + 1) i (xs.length - 1 - i)))) a (.inr (9, [.ref e, .int (nI (xs.length - 1)), .int (m + nI 1)]))) e (zQ 103 cap fn), ?_, ?_, gUp_at, ?_, ?_⟩
      · rw [if_neg (nI_ge (by omega) (by omega)), e2, e3, gCpQ_of b2 rfl b2 (by omega) (by omega) (by omega) (by omega) (fun k hk y hy => bel y (h7 (i + 1 + k) (by omega) y hy)),
          gPut_of (ci := 9) (fs := [.ref e, .int (nI xs.length), .int (m + nI 1)]) (by rw [gUp_ne hae]; exact b1) (by simp), gStN_of (n := cap) (f := va_cpy f f (i + 1) i (xs.length - 1 - i)) (by rw [gUp_ne (fun q => hae q.symm)]; exact gUp_at) (by omega) (by omega), hfn]
        rfl
      · rw [gUp_ne hae]; exact gUp_at
      · rw [← hG2]
        refine ⟨Nat.le_refl _, Nat.le_refl _, Nat.le_refl _, Nat.le_refl _, fun h => (((h.up ha).up he).up ha).up he, fun q hq hp => ?_⟩
        rw [gUp_ne (fun z => hp (Or.inr z)), gUp_ne (fun z => hp (Or.inl z)), gUp_ne (fun z => hp (Or.inr z)), gUp_ne (fun z => hp (Or.inl z))]
      · intro z hz
        exact (((bel z hz).upQ b2).upA (by rw [gUp_ne hae]; exact b1)).upQ (c := 103) (n := cap) (f := va_cpy f f (i + 1) i (xs.length - 1 - i)) (by rw [gUp_ne (fun q => hae q.symm)]; exact gUp_at)
  obtain ⟨G', k1, k2, k3, k4, k5⟩ := key
  have hlen : (xs.eraseIdx i).length = xs.length - 1 := List.length_eraseIdx_of_lt hi
  have hget : ∀ j, j < xs.length - 1 → fn j = f (if j < i then j else j + 1) := by
    intro j hj
    rw [← hfn]
    simp only [va_up, va_cpy]
    rw [if_neg (by omega)]
    by_cases hji : j < i
    · rw [if_neg (by omega), if_pos hji]
    · rw [if_pos (by omega), if_neg hji]
      congr 1; omega
  refine ⟨G', ?_, ⟨m + nI 1, 103, cap, fn, by rw [hlen]; exact k2, k3, Or.inl ⟨rfl, by omega⟩, by omega, h5, ?_, ?_⟩, k4, k5⟩
  · unfold f_AL_remove
    rw [gFI_of h1 rfl rfl, ckIx hi (by omega)]
    show gFA G a 9 0 _ = _
    rw [gFA_of h1 rfl rfl, gLdq_of h2 rfl (by omega) (by omega) ((h6 i hi).trans hx), gOb_of h1 rfl, k1]
    rfl
  · intro j hj
    rw [hlen] at hj
    rw [hget j hj, List.getElem?_eraseIdx]
    by_cases hji : j < i
    · rw [if_pos hji, if_pos hji]; exact h6 j (by omega)
    · rw [if_neg hji, if_neg hji]; exact h6 (j + 1) (by omega)
  · intro j hj z hz
    rw [hlen] at hj
    rw [hget j hj] at hz
    exact k5 z (h7 _ (by split <;> omega) z hz)

theorem al_insT {w : Nat → Nat} {G : gH} {a e i y cap : Nat} {xs : List Nat} {m : Int32} {f : Nat → Option Nat} (hw : gWf G) (h1 : G.2.2 a = some (.inr (9, [.ref e, .int (nI xs.length), .int m]))) (h2 : G.2.2 e = some (zQ 103 cap f)) (hlt : xs.length < cap) (hcap : cap ≤ 1000)
    (h6 : ∀ j, j < xs.length → f j = xs[j]?) (h7 : ∀ j, j < xs.length → ∀ z, f j = some z → gEl G z) (hi : i ≤ xs.length) (hy : gEl G y) (hae : a ≠ e) :
    ∃ G' : gH, (gCpQ G e (nI i) e (nI i + nI 1) (nI xs.length - nI i) fun G18 => gStX G18 e 103 (nI i) y fun G19 => gPut G19 a 9 1 (.int (nI xs.length + nI 1)) fun G20 => rV G20) = rV G' ∧ isAL w G' a e (xs.insertIdx i y) ∧ gFr (fun q => q = a ∨ q = e) 0 0 G G' ∧ ∀ z, gEl G z → gEl G' z := by
  have ha : a < G.2.1 := hw _ _ h1
  have he : e < G.2.1 := hw _ _ h2
  have e1 : nI xs.length + nI 1 = nI (xs.length + 1) := nI_add _ _
  have e2 : nI i + nI 1 = nI (i + 1) := nI_add _ _
  have e3 : nI xs.length - nI i = nI (xs.length - i) := pk_sub (by omega)
  generalize hfn : va_up (va_cpy f f i (i + 1) (xs.length - i)) i (some y) = fn
  have c2 : (gUp G e (zQ 103 cap (va_cpy f f i (i + 1) (xs.length - i)))).2.2 e = some (zQ 103 cap (va_cpy f f i (i + 1) (xs.length - i))) := gUp_at
  have c1 : (gUp (gUp G e (zQ 103 cap (va_cpy f f i (i + 1) (xs.length - i)))) e (zQ 103 cap fn)).2.2 a = some (.inr (9, [.ref e, .int (nI xs.length), .int m])) := by
    rw [gUp_ne hae, gUp_ne hae]; exact h1
  have hlen : (xs.insertIdx i y).length = xs.length + 1 := List.length_insertIdx_of_le_length hi y
  have keep : ∀ z, gEl G z → gEl (gUp (gUp (gUp G e (zQ 103 cap (va_cpy f f i (i + 1) (xs.length - i)))) e (zQ 103 cap fn)) a (.inr (9, [.ref e, .int (nI (xs.length + 1)), .int m]))) z := fun z hz =>
    ((hz.upQ h2).upQ c2).upA c1
  have hget : ∀ j, j < xs.length + 1 → fn j = if j < i then f j else if j = i then some y else f (j - 1) := by
    intro j hj
    rw [← hfn]
    simp only [va_up, va_cpy]
    by_cases hji : j = i
    · rw [if_pos hji, if_neg (by omega), if_pos hji]
    · rw [if_neg hji]
      by_cases hlt' : j < i
      · rw [if_neg (by omega), if_pos hlt']
      · rw [if_pos (by omega), if_neg hlt', if_neg hji]
        congr 1; omega
  refine ⟨_, ?_, ⟨m, 103, cap, fn, ?_, ?_, Or.inl ⟨rfl, by omega⟩, by omega, hcap, ?_, ?_⟩, ?_, keep⟩
  · rw [e2, e3, gCpQ_of h2 rfl h2 (by omega) (by omega) (by omega) (by omega) (fun k hk z hz => h7 (i + k) (by omega) z hz),
      gStX_of c2 (by omega) (by omega) (hy.upQ h2), hfn, gPut_of (ci := 9) c1 (by simp), e1]
    rfl
  · rw [hlen]; exact gUp_at
  · rw [gUp_ne (fun q => hae q.symm)]; exact gUp_at
  · intro j hj
    rw [hlen] at hj
    rw [hget j hj, List.getElem?_insertIdx]
    by_cases hji : j < i
    · rw [if_pos hji, if_pos hji]; exact h6 j (by omega)
    · rw [if_neg hji, if_neg hji]
      by_cases hje : j = i
      · rw [if_pos hje, if_pos hje, if_pos (by omega)]
      · rw [if_neg hje, if_neg hje]; exact h6 (j - 1) (by omega)
  · intro j hj z hz
    rw [hlen] at hj
    rw [hget j hj] at hz
    refine keep z ?_
    by_cases hji : j < i
    · rw [if_pos hji] at hz; exact h7 j (by omega) z hz
    · rw [if_neg hji] at hz
      by_cases hje : j = i
      · rw [if_pos hje] at hz; rw [← Option.some.inj hz]; exact hy
      · rw [if_neg hje] at hz; exact h7 (j - 1) (by omega) z hz
  · refine ⟨Nat.le_refl _, Nat.le_refl _, Nat.le_refl _, Nat.le_refl _, fun h => ((h.up he).up he).up ha, fun q hq hp => ?_⟩
    have hqa : q ≠ a := fun z => hp (Or.inl z)
    have hqe : q ≠ e := fun z => hp (Or.inr z)
    rw [gUp_ne hqa, gUp_ne hqe, gUp_ne hqe]

theorem al_ins {w : Nat → Nat} {G : gH} {a e i y : Nat} {xs : List Nat} (hw : gWf G) (h : isAL w G a e xs) (hl : xs.length ≤ 40) (hi : i ≤ xs.length) (hy : gEl G y) (hae : a ≠ e) :
    ∃ (e' : Nat) (G' : gH), f_AL_add1 w G a (nI i) y = rV G' ∧ isAL w G' a e' (xs.insertIdx i y) ∧ a ≠ e' ∧ ((e' = e ∧ ∃ cap f, G.2.2 e = some (zQ 103 cap f)) ∨ e' = G.2.1) ∧ gFr (fun q => q = a ∨ (q = e ∧ e' = e)) 1 61 G G' ∧ ∀ z, gEl G z → gEl G' z := by
  obtain ⟨m, κ, cap, f, h1, h2, h3, h4, h5, h6, h7⟩ := h
  have ha : a < G.2.1 := hw _ _ h1
  have he : e < G.2.1 := hw _ _ h2
  have hk : κ % 1000 = 103 := by rcases h3 with ⟨rfl, -⟩ | ⟨rfl, -⟩ <;> rfl
  generalize hG2 : gUp G a (.inr (9, [.ref e, .int (nI xs.length), .int (m + nI 1)])) = G2
  have b1 : G2.2.2 a = some (.inr (9, [.ref e, .int (nI xs.length), .int (m + nI 1)])) := by rw [← hG2]; exact gUp_at
  have b2 : G2.2.2 e = some (zQ κ cap f) := by rw [← hG2, gUp_ne (fun q => hae q.symm)]; exact h2
  have bw : gWf G2 := by rw [← hG2]; exact hw.up ha
  have bs : G2.2.1 = G.2.1 := by rw [← hG2]; rfl
  have bel : ∀ z, gEl G z → gEl G2 z := fun z hz => by rw [← hG2]; exact hz.upA h1
  have hchk : f_AL_rangeCheckForAdd G a (nI i) = rV G := by
    unfold f_AL_rangeCheckForAdd
    rw [gFI_of h1 rfl rfl, if_neg (nI_nlt hi (by omega)), if_pos (Int32.not_lt.mp (nI_pos (by omega)))]
  have hset : gUp G a (.inr (9, ([.ref e, .int (nI xs.length), .int m] : List Value).set 2 (.int (m + nI 1)))) = G2 := hG2
  unfold f_AL_add1
  rw [gOb_of h1 rfl, hchk]
  show ∃ (e' : Nat) (G' : gH), gFI G a 9 2 _ = rV G' ∧ _
  rw [gFI_of h1 rfl rfl, gPut_of (ci := 9) h1 (by simp), hset, gFI_of b1 rfl rfl, gFA_of b1 rfl rfl, gLenq_of b2 hk]
  by_cases hfull : xs.length = cap
  · obtain ⟨cap', f', G3, c1, c2, c3, c4, c5, c6, c7⟩ := al_grow (w := w) bw b1 b2 h3 hfull (by omega) (fun j hj z hz => bel z (h7 j hj z hz))
    rw [bs] at c4 c5 c6
    have cel : ∀ z, gEl G z → gEl G3 z := fun z hz => by
      by_cases hza : z = a
      · exact Or.inl ⟨_, by rw [hza]; exact c5⟩
      · exact (bel z hz).fr c7 bw hza
    have hna : a ≠ G.2.1 := by omega
    obtain ⟨d1, d2, d3, d4, d5, d6⟩ := c7
    have hs0 : G2.1 = G.1 := by rw [← hG2]; rfl
    rw [bs] at d1 d2
    rw [hs0] at d3 d4
    obtain ⟨G', k1, k2, k3, k4⟩ := al_insT (w := w) (i := i) (y := y) (d5 bw) c5 c6 c1 (by omega) (fun j hj => (c3 j hj).trans (h6 j hj)) (fun j hj z hz => cel z (h7 j hj z ((c3 j hj).symm.trans hz))) hi (cel y hy) hna
    refine ⟨G.2.1, G', ?_, k2, hna, Or.inr rfl, ?_, fun z hz => k4 z (cel z hz)⟩
    · rw [hfull, if_pos rfl, gOb_of b1 rfl, c4]
      rw [← hfull]
      exact k1
    · obtain ⟨g1, g2, g3, g4, g5, g6⟩ := k3
      refine ⟨by omega, by omega, by omega, by omega, fun _ => g5 (d5 bw), fun q hq hp => ?_⟩
      have hqa : q ≠ a := fun z => hp (Or.inl z)
      rw [g6 q (by omega) (by rintro (z | z) <;> omega), d6 q (by omega) hqa, ← hG2, gUp_ne hqa]
  · have hlt : xs.length < cap := by omega
    have hκ : κ = 103 := by
      rcases h3 with ⟨h, -⟩ | ⟨-, -, h⟩
      · exact h
      · omega
    subst hκ
    obtain ⟨G', k1, k2, k3, k4⟩ := al_insT (w := w) (i := i) (y := y) bw b1 b2 hlt h5 h6 (fun j hj z hz => bel z (h7 j hj z hz)) hi (bel y hy) hae
    refine ⟨e, G', ?_, k2, hae, Or.inl ⟨rfl, cap, f, h2⟩, ?_, fun z hz => k4 z (bel z hz)⟩
    · rw [if_neg (fun q => hfull ((nI_eq (by omega) (by omega)).mp q))]
      exact k1
    · obtain ⟨g1, g2, g3, g4, g5, g6⟩ := k3
      have hs0 : G2.1 = G.1 := by rw [← hG2]; rfl
      rw [bs] at g1 g2
      rw [hs0] at g3 g4
      refine ⟨by omega, by omega, by omega, by omega, fun _ => g5 bw, fun q hq hp => ?_⟩
      have hqa : q ≠ a := fun z => hp (Or.inl z)
      rw [g6 q (by omega) (fun z => hp (z.imp_right (fun y => ⟨y, rfl⟩))), ← hG2, gUp_ne hqa]

/-- a new list: its cell is made by `new`, then `<init>` gives it the empty array -/
theorem al_init {w : Nat → Nat} {G : gH} {a : Nat} {v : Value} {x m : Int32} (hw : gWf G) (h1 : G.2.2 a = some (.inr (9, [v, .int x, .int m]))) (hx : x = nI 0) {f : Nat → Option Nat} (h2 : G.2.2 (w 0) = some (zQ 1103 0 f)) (hae : a ≠ w 0) :
    ∃ G' : gH, f_AL_init w G a = rV G' ∧ isAL w G' a (w 0) [] ∧ gFr (fun q => q = a) 0 0 G G' ∧ ∀ z, gEl G z → gEl G' z := by
  subst hx
  have ha : a < G.2.1 := hw _ _ h1
  have b1 : (gUp G a (.inr (9, [v, .int (nI 0), .int (nI 0)]))).2.2 a = some (.inr (9, [v, .int (nI 0), .int (nI 0)])) := gUp_at
  refine ⟨gUp (gUp G a (.inr (9, [v, .int (nI 0), .int (nI 0)]))) a (.inr (9, [.ref (w 0), .int (nI 0), .int (nI 0)])), ?_, ⟨nI 0, 1103, 0, f, gUp_at, ?_, Or.inr ⟨rfl, rfl, rfl⟩, by simp, by omega, ?_, ?_⟩, ?_, ?_⟩
  · unfold f_AL_init f_AY_init f_AC_init
    show bV (gPut G a 9 2 _ _) _ = _
    rw [gPut_of (ci := 9) h1 (by simp)]
    show gPut (gUp G a (.inr (9, [v, .int (nI 0), .int (nI 0)]))) a 9 0 _ _ = _
    rw [gPut_of (ci := 9) b1 (by simp)]
    rfl
  · rw [gUp_ne (fun q => hae q.symm), gUp_ne (fun q => hae q.symm)]; exact h2
  · intro i hi; simp at hi
  · intro i hi; simp at hi
  · refine ⟨Nat.le_refl _, Nat.le_refl _, Nat.le_refl _, Nat.le_refl _, fun h => (h.up ha).up ha, fun q hq hp => ?_⟩
    rw [gUp_ne hp, gUp_ne hp]
  · intro z hz
    exact (hz.upA h1).upA b1
end
section

-- the reference's state: rows of (key, tag), parts (of, from, length), cursors (list, next, last, stale), ints: 0 thrown 1 made 2 partsOver 3 cursorsOver 4 faults 5 refused
abbrev mS := (Nat → List (Nat × Nat × Nat)) × (Nat → Option (Nat × Nat × Nat)) × (Nat → Option (Nat × Nat × Int32 × Int32)) × (Nat → Int32)
abbrev mD := (Nat × Nat × Nat × Nat) × (Nat → Nat) × (Nat → Nat) × (Int32 → Nat) × (Nat → Option Nat) × (Nat → Option Nat)
/-- row and place in the row where a list begins -/
def mRw (P : Nat → Option (Nat × Nat × Nat)) : Nat → Nat → Option (Nat × Nat)
  | 0, _ => none
  | d + 1, p => if p < 2 then some (p, 0) else match P p with
    | none => none
    | some (o, f, _) => (mRw P d o).map fun x => (x.1, f + x.2)
def mLen (A : mS) (p : Nat) : Nat := if p < 2 then (A.1 p).length else match A.2.1 p with
  | none => 0
  | some (_, _, l) => l
def mOb (A : mS) (D : mD) : List Value := [.int (A.2.2.2 0), .ref D.1.1, .ref D.1.2.2.1, .ref D.1.2.2.2, .int (A.2.2.2 1), .int (A.2.2.2 2), .int (A.2.2.2 3), .int (A.2.2.2 4), .int (A.2.2.2 5)]
def mTh (G : gH) (x : Nat) (t : Nat × Nat) : Prop := ∃ g : Nat → Int32, G.2.2 x = some (zI 100 2 g) ∧ g 0 = nI t.1 ∧ g 1 = nI t.2
def mPt (G : gH) (x : Option (Nat × Nat × Nat)) (y : Option Nat) : Prop := match x, y with
  | none, none => True
  | some (o, f, l), some q => o < 6 ∧ f < 100 ∧ l < 100 ∧ G.2.2 q = some (.inr (5, [.int (nI o), .int (nI f), .int (nI l)]))
  | _, _ => False
def mCu (G : gH) (x : Option (Nat × Nat × Int32 × Int32)) (y : Option Nat) : Prop := match x, y with
  | none, none => True
  | some (i, n, la, s), some q => i < 6 ∧ n < 100 ∧ G.2.2 q = some (.inr (4, [.int (nI i), .int (nI n), .int la, .int s]))
  | _, _ => False
def mIn (n : Nat) (f : Nat → Option Nat) : Prop := ∀ i j q, i < n → j < n → f i = some q → f j = some q → i = j
def MRep (w : Nat → Nat) (G : gH) (o : Nat) (A : mS) (D : mD) : Prop :=
  G.2.2 o = some (.inr (6, mOb A D)) ∧ isAL w G D.1.1 D.1.2.1 [D.2.1 0, D.2.1 1] ∧
  (∀ i, i < 2 → isAL w G (D.2.1 i) (D.2.2.1 i) ((A.1 i).map fun t => t.1)) ∧
  G.2.2 D.1.2.2.1 = some (zQ 104 6 D.2.2.2.2.1) ∧ G.2.2 D.1.2.2.2 = some (zQ 105 3 D.2.2.2.2.2) ∧
  (∀ i, i < 2 → ∀ t, t ∈ A.1 i → mTh G t.1 t.2) ∧
  (∀ p, p < 6 → mPt G (A.2.1 p) (D.2.2.2.2.1 p)) ∧ (∀ c, c < 3 → mCu G (A.2.2.1 c) (D.2.2.2.2.2 c)) ∧
  (D.2.1 0 ≠ D.2.1 1 ∧ (∀ i, i < 2 → D.1.1 ≠ D.2.1 i ∧ D.1.2.1 ≠ D.2.2.1 i) ∧ (D.2.2.1 0 = D.2.2.1 1 → D.2.2.1 0 = w 0) ∧ mIn 6 D.2.2.2.2.1 ∧ mIn 3 D.2.2.2.2.2) ∧
  (∀ i, i < 2 → (A.1 i).length ≤ 31)
/-- the empty array of the library -/
def mW0 (w : Nat → Nat) (G : gH) : Prop := ∃ f, G.2.2 (w 0) = some (zQ 1103 0 f)

theorem mRw_lt {P : Nat → Option (Nat × Nat × Nat)} : ∀ (d p r b : Nat), mRw P d p = some (r, b) → r < 2
  | 0, _, _, _, h => by cases h
  | d + 1, p, r, b, h => by
    unfold mRw at h
    by_cases hp : p < 2
    · rw [if_pos hp] at h; cases h; exact hp
    · rw [if_neg hp] at h
      cases hq : P p with
      | none => rw [hq] at h; cases h
      | some x =>
        obtain ⟨o, f, l⟩ := x
        rw [hq] at h
        simp only at h
        cases hr : mRw P d o with
        | none => rw [hr] at h; cases h
        | some y =>
          obtain ⟨r', b'⟩ := y
          rw [hr] at h
          cases h
          exact mRw_lt d o _ _ hr
theorem MRep.part {w : Nat → Nat} {G : gH} {o : Nat} {A : mS} {D : mD} (h : MRep w G o A D) {p : Nat} (hp : p < 6) {x : Nat × Nat × Nat} (hx : A.2.1 p = some x) :
    ∃ q, D.2.2.2.2.1 p = some q ∧ x.1 < 6 ∧ x.2.1 < 100 ∧ x.2.2 < 100 ∧ G.2.2 q = some (.inr (5, [.int (nI x.1), .int (nI x.2.1), .int (nI x.2.2)])) := by
  have k := h.2.2.2.2.2.2.1 p hp
  obtain ⟨o', f, l⟩ := x
  rw [hx] at k
  cases hq : D.2.2.2.2.1 p with
  | none => rw [hq] at k; exact k.elim
  | some q => rw [hq] at k; exact ⟨q, rfl, k⟩
theorem MRep.nopart {w : Nat → Nat} {G : gH} {o : Nat} {A : mS} {D : mD} (h : MRep w G o A D) {p : Nat} (hp : p < 6) (hx : A.2.1 p = none) : D.2.2.2.2.1 p = none := by
  have k := h.2.2.2.2.2.2.1 p hp
  rw [hx] at k
  cases hq : D.2.2.2.2.1 p with
  | none => rfl
  | some q => rw [hq] at k; exact k.elim
theorem MRep.cur {w : Nat → Nat} {G : gH} {o : Nat} {A : mS} {D : mD} (h : MRep w G o A D) {c : Nat} (hp : c < 3) {x : Nat × Nat × Int32 × Int32} (hx : A.2.2.1 c = some x) :
    ∃ q, D.2.2.2.2.2 c = some q ∧ x.1 < 6 ∧ x.2.1 < 100 ∧ G.2.2 q = some (.inr (4, [.int (nI x.1), .int (nI x.2.1), .int x.2.2.1, .int x.2.2.2])) := by
  have k := h.2.2.2.2.2.2.2.1 c hp
  obtain ⟨i, n, la, s⟩ := x
  rw [hx] at k
  cases hq : D.2.2.2.2.2 c with
  | none => rw [hq] at k; exact k.elim
  | some q => rw [hq] at k; exact ⟨q, rfl, k⟩
theorem MRep.nocur {w : Nat → Nat} {G : gH} {o : Nat} {A : mS} {D : mD} (h : MRep w G o A D) {c : Nat} (hp : c < 3) (hx : A.2.2.1 c = none) : D.2.2.2.2.2 c = none := by
  have k := h.2.2.2.2.2.2.2.1 c hp
  rw [hx] at k
  cases hq : D.2.2.2.2.2 c with
  | none => rfl
  | some q => rw [hq] at k; exact k.elim

theorem m_rowOf {w : Nat → Nat} {G : gH} {o : Nat} {A : mS} {D : mD} (h : MRep w G o A D) : ∀ (d p r b : Nat), p < 6 → mRw A.2.1 d p = some (r, b) → f_M_rowOf d G o (nI p) = rI (nI r) G
  | 0, _, _, _, _, k => by cases k
  | d + 1, p, r, b, hp, k => by
    unfold mRw at k
    unfold f_M_rowOf f_M_rowOf_B
    by_cases h2 : p < 2
    · rw [if_pos h2] at k; cases k
      rw [if_neg (nI_ge h2 (by omega))]
    · rw [if_neg h2] at k
      cases hq : A.2.1 p with
      | none => rw [hq] at k; cases k
      | some x =>
        rw [hq] at k
        obtain ⟨q, e1, e2, e3, e4, e5⟩ := h.part hp hq
        obtain ⟨o', f, l⟩ := x
        simp only at k e2 e3 e4 e5
        cases hr : mRw A.2.1 d o' with
        | none => rw [hr] at k; cases k
        | some y =>
          obtain ⟨r', b'⟩ := y
          rw [hr] at k; cases k
          rw [if_pos (nI_le (by omega) (by omega)), gFA_of h.1 rfl rfl, gLdq_of h.2.2.2.1 rfl hp (by omega) e1, gFI_of e5 rfl rfl, gOb_of h.1 rfl, m_rowOf h d o' _ _ e2 hr]
          rfl
theorem m_base {w : Nat → Nat} {G : gH} {o : Nat} {A : mS} {D : mD} (h : MRep w G o A D) : ∀ (d p r b : Nat), p < 6 → mRw A.2.1 d p = some (r, b) → f_M_base d G o (nI p) = rI (nI b) G
  | 0, _, _, _, _, k => by cases k
  | d + 1, p, r, b, hp, k => by
    unfold mRw at k
    unfold f_M_base f_M_base_B
    by_cases h2 : p < 2
    · rw [if_pos h2] at k; cases k
      rw [if_neg (nI_ge h2 (by omega))]
    · rw [if_neg h2] at k
      cases hq : A.2.1 p with
      | none => rw [hq] at k; cases k
      | some x =>
        rw [hq] at k
        obtain ⟨q, e1, e2, e3, e4, e5⟩ := h.part hp hq
        obtain ⟨o', f, l⟩ := x
        simp only at k e2 e3 e4 e5
        cases hr : mRw A.2.1 d o' with
        | none => rw [hr] at k; cases k
        | some y =>
          obtain ⟨r', b'⟩ := y
          rw [hr] at k; cases k
          rw [if_pos (nI_le (by omega) (by omega)), gFA_of h.1 rfl rfl, gLdq_of h.2.2.2.1 rfl hp (by omega) e1, gFI_of e5 rfl rfl, gFA_of h.1 rfl rfl, gLdq_of h.2.2.2.1 rfl hp (by omega) e1, gFI_of e5 rfl rfl, gOb_of h.1 rfl, m_base h d o' _ _ e2 hr]
          show rI (nI f + nI b') G = _
          rw [nI_add]
theorem m_row {w : Nat → Nat} {G : gH} {o : Nat} {A : mS} {D : mD} (h : MRep w G o A D) {p r b : Nat} (hp : p < 6) (k : mRw A.2.1 zDp p = some (r, b)) : f_M_row G o (nI p) = rA (D.2.1 r) G := by
  have hr := mRw_lt _ _ _ _ k
  obtain ⟨m, κ, cap, f, h1, -⟩ := h.2.1
  obtain ⟨m', κ', cap', f', h1', -⟩ := h.2.2.1 r hr
  unfold f_M_row
  rw [gFA_of h.1 rfl rfl, gOb_of h.1 rfl, m_rowOf h _ _ _ _ hp k]
  show gOb G D.1.1 9 _ = _
  rw [gOb_of h1 rfl, al_get (x := D.2.1 r) h.2.1 (by rcases (by omega : r = 0 ∨ r = 1) with rfl | rfl <;> rfl)]
  show gCaO G (D.2.1 r) 9 _ = _
  unfold gCaO
  rw [gOb_of h1' rfl]
theorem m_length {w : Nat → Nat} {G : gH} {o : Nat} {A : mS} {D : mD} (h : MRep w G o A D) {p : Nat} (hp : p < 6) (k : p < 2 ∨ A.2.1 p ≠ none) : f_M_length G o (nI p) = rI (nI (mLen A p)) G := by
  unfold f_M_length mLen
  by_cases h2 : p < 2
  · obtain ⟨m, κ, cap, f, h1, -⟩ := h.2.1
    obtain ⟨m', κ', cap', f', h1', -⟩ := h.2.2.1 p h2
    rw [if_neg (nI_ge h2 (by omega)), if_pos h2, gFA_of h.1 rfl rfl]
    show gOb G D.1.1 9 _ = _
    rw [gOb_of h1 rfl, al_get (x := D.2.1 p) h.2.1 (by rcases (by omega : p = 0 ∨ p = 1) with rfl | rfl <;> rfl)]
    show gCaO G (D.2.1 p) 9 _ = _
    unfold gCaO
    rw [gOb_of h1' rfl, gOb_of h1' rfl, al_size (h.2.2.1 p h2), List.length_map]
    rfl
  · rw [if_pos (nI_le (by omega) (by omega)), if_neg h2]
    cases hq : A.2.1 p with
    | none => exact absurd hq (by rcases k with k | k; · exact absurd k h2
                                  · exact k)
    | some x =>
      obtain ⟨q, e1, e2, e3, e4, e5⟩ := h.part hp hq
      obtain ⟨o', f, l⟩ := x
      rw [gFA_of h.1 rfl rfl, gLdq_of h.2.2.2.1 rfl hp (by omega) e1, gFI_of e5 rfl rfl]
theorem m_at {w : Nat → Nat} {G : gH} {o : Nat} {A : mS} {D : mD} (h : MRep w G o A D) {p r b i : Nat} {t : Nat × Nat × Nat} (hp : p < 6) (k : mRw A.2.1 zDp p = some (r, b)) (ht : (A.1 r)[b + i]? = some t) : f_M_at G o (nI p) (nI i) = rA (t.1) G := by
  have hr := mRw_lt _ _ _ _ k
  have hm : t ∈ A.1 r := List.mem_of_getElem? ht
  obtain ⟨g, t1, -⟩ := h.2.2.2.2.2.1 r hr t hm
  obtain ⟨m', κ', cap', f', h1', -⟩ := h.2.2.1 r hr
  unfold f_M_at
  rw [gOb_of h.1 rfl, m_row h hp k]
  show gOb G o 6 _ = _
  rw [gOb_of h.1 rfl, m_base h _ _ _ _ hp k]
  show gOb G (D.2.1 r) 9 _ = _
  rw [gOb_of h1' rfl, nI_add, al_get (h.2.2.1 r hr) (x := t.1) (by rw [List.getElem?_map, ht]; rfl)]
  show gCaA G _ 100 _ = _
  unfold gCaA gAr
  rw [t1]
  rfl

-- what leaves the reference's cells alone keeps its state
def mN3 (N : zE → Prop) : Prop := (∀ fs, N (.inr (9, fs))) ∧ (∀ c n f, c % 1000 = 103 → N (zQ c n f)) ∧ ∀ g, N (zI 100 2 g)
def mN (N : zE → Prop) : Prop := mN3 N ∧ ((∀ n f, N (zQ 104 n f)) ∧ ∀ n f, N (zQ 105 n f)) ∧ (∀ fs, N (.inr (5, fs))) ∧ ∀ fs, N (.inr (4, fs))
def gSm (N : zE → Prop) (G G' : gH) : Prop := ∀ q z, G.2.2 q = some z → N z → G'.2.2 q = some z
theorem isAL.tr {N : zE → Prop} (hN : mN3 N) {w : Nat → Nat} {G G' : gH} {a e : Nat} {xs : List Nat} (h : isAL w G a e xs) (hk : gSm N G G') (hel : gKeep G G') : isAL w G' a e xs := by
  obtain ⟨m, κ, cap, f, h1, h2, h3, h4, h5, h6, h7⟩ := h
  exact ⟨m, κ, cap, f, hk _ _ h1 (hN.1 _), hk _ _ h2 (hN.2.1 _ _ _ (by rcases h3 with ⟨rfl, -⟩ | ⟨rfl, -⟩ <;> rfl)), h3, h4, h5, h6, fun i hi y hy => hel y (h7 i hi y hy)⟩
theorem mTh.trs {N : zE → Prop} (hN : ∀ g, N (zI 100 2 g)) {G G' : gH} {x : Nat} {t : Nat × Nat} (h : mTh G x t) (hk : gSm N G G') : mTh G' x t := by
  obtain ⟨g, h1, h2⟩ := h
  exact ⟨g, hk _ _ h1 (hN _), h2⟩
theorem mTh.tr {N : zE → Prop} (hN : mN3 N) {G G' : gH} {x : Nat} {t : Nat × Nat} (h : mTh G x t) (hk : gSm N G G') : mTh G' x t := by
  obtain ⟨g, h1, h2⟩ := h
  exact ⟨g, hk _ _ h1 (hN.2.2 _), h2⟩
theorem mPt.tr {N : zE → Prop} (hN : ∀ fs, N (.inr (5, fs))) {G G' : gH} {x : Option (Nat × Nat × Nat)} {y : Option Nat} (h : mPt G x y) (hk : gSm N G G') : mPt G' x y := by
  cases x with
  | none => cases y with
    | none => exact h
    | some q => exact h
  | some x =>
    obtain ⟨o, f, l⟩ := x
    cases y with
    | none => exact h
    | some q => exact ⟨h.1, h.2.1, h.2.2.1, hk _ _ h.2.2.2 (hN _)⟩
theorem mCu.tr {N : zE → Prop} (hN : ∀ fs, N (.inr (4, fs))) {G G' : gH} {x : Option (Nat × Nat × Int32 × Int32)} {y : Option Nat} (h : mCu G x y) (hk : gSm N G G') : mCu G' x y := by
  cases x with
  | none => cases y with
    | none => exact h
    | some q => exact h
  | some x =>
    obtain ⟨i, n, la, s⟩ := x
    cases y with
    | none => exact h
    | some q => exact ⟨h.1, h.2.1, hk _ _ h.2.2 (hN _)⟩
theorem MRep.tr {N : zE → Prop} (hN : mN N) {w : Nat → Nat} {G G' : gH} {o : Nat} {A A' : mS} {D : mD} (h : MRep w G o A D) (hk : gSm N G G') (hel : gKeep G G')
    (ho : G'.2.2 o = some (.inr (6, mOb A' D))) (hA : A'.1 = A.1) (hB : A'.2.1 = A.2.1) (hC : A'.2.2.1 = A.2.2.1) : MRep w G' o A' D := by
  obtain ⟨k1, k2, k3, k4, k5, k6, k7, k8, k9, k10⟩ := h
  refine ⟨ho, k2.tr hN.1 hk hel, ?_, hk _ _ k4 (hN.2.1.1 _ _), hk _ _ k5 (hN.2.1.2 _ _), ?_, ?_, ?_, k9, ?_⟩
  · rw [hA]; exact fun i hi => (k3 i hi).tr hN.1 hk hel
  · rw [hA]; exact fun i hi t ht => (k6 i hi t ht).tr hN.1 hk
  · rw [hB]; exact fun p hp => (k7 p hp).tr hN.2.2.1 hk
  · rw [hC]; exact fun c hc => (k8 c hc).tr hN.2.2.2 hk
  · rw [hA]; exact k10
/-- a cell is written: the cells of other kinds stay -/
theorem gSm.up {N : zE → Prop} {G : gH} {q : Nat} {e0 e' : zE} (h0 : G.2.2 q = some e0) (hn : ¬ N e0) : gSm N G (gUp G q e') := by
  intro x z hx hz
  rw [gUp_ne]
  · exact hx
  · rintro rfl
    rw [h0] at hx
    cases hx
    exact hn hz
theorem gSm.trans {N : zE → Prop} {G G1 G2 : gH} (h1 : gSm N G G1) (h2 : gSm N G1 G2) : gSm N G G2 := fun q z hq hz => h2 q z (h1 q z hq hz) hz
theorem gKeep.trans {G G1 G2 : gH} (h1 : gKeep G G1) (h2 : gKeep G1 G2) : gKeep G G2 := fun y hy => h2 y (h1 y hy)
theorem gKeep.refl {G : gH} : gKeep G G := fun _ h => h
/-- a cell that lies in no list is written -/
theorem gKeep.up {G : gH} {q : Nat} {e0 e' : zE} (h0 : G.2.2 q = some e0) (h9 : ∀ fs, e0 ≠ .inr (9, fs)) (hI : ∀ m g, e0 ≠ zI 100 m g) : gKeep G (gUp G q e') := by
  intro y hy
  have hne : y ≠ q := by
    rintro rfl
    rcases hy with ⟨fs, h⟩ | ⟨m, g, h⟩ <;> rw [h0] at h
    · exact h9 _ (Option.some.inj h)
    · exact hI _ _ (Option.some.inj h)
  rcases hy with ⟨fs, h⟩ | ⟨m, g, h⟩
  · exact Or.inl ⟨fs, by rw [gUp_ne hne]; exact h⟩
  · exact Or.inr ⟨m, g, by rw [gUp_ne hne]; exact h⟩
/-- all but the model's object -/
def mN6 (e : zE) : Prop := ∀ fs, e ≠ .inr (6, fs)
theorem mN6_ok : mN mN6 := by
  refine ⟨⟨fun fs x h => ?_, fun c n f _ x h => ?_, fun g x h => ?_⟩, ⟨fun n f x h => ?_, fun n f x h => ?_⟩, fun fs x h => ?_, fun fs x h => ?_⟩ <;> cases h
def mSet (A : mS) (j : Nat) (v : Int32) : mS := (A.1, A.2.1, A.2.2.1, fun k => if k = j then v else A.2.2.2 k)
def mFd (j : Nat) : Nat := if j = 0 then 0 else 3 + j
theorem mOb_set {A : mS} {D : mD} {j : Nat} {v : Int32} (hj : j < 6) : (mOb A D).set (mFd j) (.int v) = mOb (mSet A j v) D := by
  rcases (by omega : j = 0 ∨ j = 1 ∨ j = 2 ∨ j = 3 ∨ j = 4 ∨ j = 5) with rfl | rfl | rfl | rfl | rfl | rfl <;> rfl
theorem mOb_int {A : mS} {D : mD} {j : Nat} (hj : j < 6) : (mOb A D)[mFd j]? = some (.int (A.2.2.2 j)) := by
  rcases (by omega : j = 0 ∨ j = 1 ∨ j = 2 ∨ j = 3 ∨ j = 4 ∨ j = 5) with rfl | rfl | rfl | rfl | rfl | rfl <;> rfl
theorem MRep.setI {w : Nat → Nat} {G : gH} {o : Nat} {A : mS} {D : mD} (h : MRep w G o A D) (j : Nat) (v : Int32) : MRep w (gUp G o (.inr (6, mOb (mSet A j v) D))) o (mSet A j v) D :=
  h.tr (N := mN6) mN6_ok (gSm.up h.1 (fun q => q _ rfl)) (gKeep.up h.1 (fun _ q => by cases q) (fun _ _ q => by cases q)) gUp_at rfl rfl rfl
theorem m_put {w : Nat → Nat} {G : gH} {o : Nat} {A : mS} {D : mD} (h : MRep w G o A D) {j i : Nat} {v : Int32} {k : gH → gR} (hj : j < 6) (hi : i = mFd j) : gPut G o 6 i (.int v) k = k (gUp G o (.inr (6, mOb (mSet A j v) D))) := by
  subst hi
  rw [gPut_of (ci := 6) h.1 (by show mFd j < 9; unfold mFd; split <;> omega), mOb_set hj]
theorem m_int {w : Nat → Nat} {G : gH} {o : Nat} {A : mS} {D : mD} (h : MRep w G o A D) {j i : Nat} {k : Int32 → gR} (hj : j < 6) (hi : i = mFd j) : gFI G o 6 i k = k (A.2.2.2 j) := by
  subst hi
  exact gFI_of h.1 rfl (mOb_int hj)
def mB (b : Bool) : Int32 := if b then 1 else 0
/-- the first reason for a refusal stays -/
def mRef (A : mS) (c : Bool) (code : Int32) : mS := if c && A.2.2.2 0 == 0 then mSet A 0 code else A
theorem m_refuse {w : Nat → Nat} {G : gH} {o : Nat} {A : mS} {D : mD} (hw : gWf G) (h : MRep w G o A D) (c : Bool) (code : Int32) :
    ∃ G', f_M_refuse G o (mB c) code = rZ (mB (decide (¬ (mRef A c code).2.2.2 0 ≤ 0))) G' ∧ MRep w G' o (mRef A c code) D ∧ gFr (fun q => q = o) 0 0 G G' := by
  have fin : ∀ (A1 : mS) (G1 : gH), MRep w G1 o A1 D → (gFI G1 o 6 0 fun v => if v ≤ 0 then rZ (nI 0) G1 else rZ (nI 1) G1) = rZ (mB (decide (¬ A1.2.2.2 0 ≤ 0))) G1 := by
    intro A1 G1 h1
    rw [m_int h1 (j := 0) (i := 0) (by omega) rfl]
    by_cases hv : A1.2.2.2 0 ≤ 0
    · rw [if_pos hv, decide_eq_false (fun q => q hv)]; rfl
    · rw [if_neg hv, decide_eq_true hv]; rfl
  unfold f_M_refuse
  cases c with
  | false =>
    refine ⟨G, ?_, h, gFr.refl⟩
    show (if (0 : Int32) = 0 then _ else _) = _
    rw [if_pos rfl, fin A G h]; rfl
  | true =>
    show ∃ G', (if (1 : Int32) = 0 then _ else _) = _ ∧ _
    rw [if_neg (by decide), m_int h (j := 0) (i := 0) (by omega) rfl]
    by_cases hv : A.2.2.2 0 = 0
    · have e1 : mRef A true code = mSet A 0 code := by simp [mRef, hv]
      rw [e1, if_pos hv, m_put h (j := 0) (i := 0) (by omega) rfl]
      exact ⟨_, fin _ _ (h.setI 0 code), h.setI 0 code, gFr.up (hw _ _ h.1)⟩
    · have e1 : mRef A true code = A := by simp [mRef, hv]
      rw [e1, if_neg hv]
      exact ⟨G, fin A G h, h, gFr.refl⟩
theorem m_start {w : Nat → Nat} {G : gH} {o : Nat} {A : mS} {D : mD} (hw : gWf G) (h : MRep w G o A D) (c : Bool) (code : Int32) :
    ∃ G', f_M_start G o (mB c) code = rZ (mB (decide (¬ (mRef (mSet A 0 (nI 0)) c code).2.2.2 0 ≤ 0))) G' ∧ MRep w G' o (mRef (mSet A 0 (nI 0)) c code) D ∧ gFr (fun q => q = o) 0 0 G G' := by
  obtain ⟨G', k1, k2, k3⟩ := m_refuse (G := gUp G o (.inr (6, mOb (mSet A 0 (nI 0)) D))) (hw.up (hw _ _ h.1)) (h.setI 0 (nI 0)) c code
  refine ⟨G', ?_, k2, (gFr.up (hw _ _ h.1)).trans k3⟩
  unfold f_M_start
  rw [m_put h (j := 0) (i := 0) (by omega) rfl, gOb_of (h.setI 0 (nI 0)).1 rfl]
  show bI (f_M_refuse (gUp G o (.inr (6, mOb (mSet A 0 (nI 0)) D))) o (mB c) code) _ = _
  rw [k1]
  cases decide (¬ (mRef (mSet A 0 (nI 0)) c code).2.2.2 0 ≤ 0) <;> rfl
theorem m_isIn {G : gH} {x a b : Int32} : f_M_isIn G x a b = rZ (mB (decide (¬ x < a ∧ ¬ b < x))) G := by
  unfold f_M_isIn
  by_cases h1 : x < a
  · rw [if_pos h1, decide_eq_false (fun q => q.1 h1)]; rfl
  · rw [if_neg h1]
    by_cases h2 : b < x
    · rw [if_pos h2, decide_eq_false (fun q => q.2 h2)]; rfl
    · rw [if_neg h2, decide_eq_true ⟨h1, h2⟩]; rfl
/-- a number of a list that is there -/
def mIsL (A : mS) (x : Int32) : Prop := ∃ p, p < 6 ∧ x = nI p ∧ (p < 2 ∨ A.2.1 p ≠ none)
theorem mB_Z {b : Bool} {G : gH} {k : Int32 → gH → gR} : bI (rZ (mB b) G) k = k (mB b) G := by cases b <;> rfl
theorem m_isNoList {w : Nat → Nat} {G : gH} {o : Nat} {A : mS} {D : mD} (h : MRep w G o A D) (x : Int32) [dd : Decidable (mIsL A x)] : f_M_isNoList G o x = rZ (mB (decide (¬ mIsL A x))) G := by
  unfold f_M_isNoList
  rw [m_isIn, mB_Z]
  by_cases h1 : ¬ x < nI 0 ∧ ¬ nI 5 < x
  · obtain ⟨p, hp, rfl⟩ := nI_of h1.1
    have hp6 : p < 6 := by
      rcases Nat.lt_or_ge p 6 with q | q
      · exact q
      · exact absurd (nI_lt (by omega) hp) h1.2
    rw [decide_eq_true h1]
    show (if (1 : Int32) = 0 then _ else _) = _
    rw [if_neg (by decide)]
    by_cases h2 : p < 2
    · rw [if_pos (nI_lt h2 (by omega)), decide_eq_false (fun q => q ⟨p, hp6, rfl, Or.inl h2⟩)]; rfl
    · rw [if_neg (nI_nlt (by omega) hp), gFA_of h.1 rfl rfl]
      cases hq : A.2.1 p with
      | none =>
        rw [gLdq_no h.2.2.2.1 rfl hp6 (by omega) (h.nopart hp6 hq), decide_eq_true]
        · rfl
        · rintro ⟨p', h3, h4, h5⟩
          have := (nI_eq hp (by omega)).mp h4
          subst this
          rcases h5 with h5 | h5
          · exact h2 h5
          · exact h5 hq
      | some y =>
        obtain ⟨q, e1, -⟩ := h.part hp6 hq
        rw [gLdq_of h.2.2.2.1 rfl hp6 (by omega) e1, decide_eq_false (fun q => q ⟨p, hp6, rfl, Or.inr (by rw [hq]; exact Option.some_ne_none _)⟩)]
        rfl
  · rw [decide_eq_false h1]
    show (if (0 : Int32) = 0 then _ else _) = _
    rw [if_pos rfl, decide_eq_true]
    · rfl
    · rintro ⟨p, h3, rfl, -⟩
      exact h1 ⟨nI_pos (by omega), nI_nlt (by omega) (by omega)⟩
theorem m_isFull {w : Nat → Nat} {G : gH} {o : Nat} {A : mS} {D : mD} (h : MRep w G o A D) {p r b n : Nat} (hp : p < 6) (k : mRw A.2.1 zDp p = some (r, b)) (hn : n < 100) : f_M_isFull G o (nI p) (nI n) = rZ (mB (decide (31 < (A.1 r).length + n))) G := by
  have hr := mRw_lt _ _ _ _ k
  obtain ⟨m', κ', cap', f', h1', -⟩ := h.2.2.1 r hr
  have hl := h.2.2.2.2.2.2.2.2.2 r hr
  unfold f_M_isFull
  rw [gOb_of h.1 rfl, m_row h hp k]
  show gOb G (D.2.1 r) 9 _ = _
  rw [gOb_of h1' rfl, al_size (h.2.2.1 r hr), List.length_map]
  show (if nI (A.1 r).length + nI n ≤ nI 31 then _ else _) = _
  rw [nI_add]
  by_cases hh : 31 < (A.1 r).length + n
  · rw [if_neg (nI_ge hh (by omega)), decide_eq_true hh]; rfl
  · rw [if_pos (nI_le (by omega) (by omega)), decide_eq_false hh]; rfl

-- a step of the reference: only its own cells (objects of the classes 4, 5, 6, arrays of parts and cursors) change
def mKq (e : zE) : Prop := (∃ c fs, e = .inr (c, fs) ∧ (c = 4 ∨ c = 5 ∨ c = 6)) ∨ ∃ c n f, e = zQ c n f ∧ (c = 104 ∨ c = 105)
def mOwq (G : gH) (q : Nat) : Prop := ∃ e, G.2.2 q = some e ∧ mKq e
def mSq (k n : Nat) (G G' : gH) : Prop := gFr (mOwq G) k n G G' ∧ gKeep G G'
theorem mSq.refl {G : gH} : mSq 0 0 G G := ⟨gFr.refl, gKeep.refl⟩
theorem mSq.trans {k n k' n' : Nat} {G G1 G2 : gH} (h1 : mSq k n G G1) (h2 : mSq k' n' G1 G2) : mSq (k + k') (n + n') G G2 := by
  refine ⟨?_, h1.2.trans h2.2⟩
  obtain ⟨a1, a2, a3, a4, a5, a6⟩ := h1.1
  obtain ⟨b1, b2, b3, b4, b5, b6⟩ := h2.1
  refine ⟨by omega, by omega, by omega, by omega, fun h => b5 (a5 h), fun q hq hp => ?_⟩
  have e := a6 q hq hp
  rw [b6 q (by omega) (fun ⟨z, hz, hk⟩ => hp ⟨z, by rw [← e]; exact hz, hk⟩), e]
theorem mSq.mono {k n k' n' : Nat} {G G' : gH} (h : mSq k n G G') (hk : k ≤ k') (hn : n ≤ n') : mSq k' n' G G' := ⟨h.1.mono (fun _ _ p => p) hk hn, h.2⟩
theorem mSq.up {G : gH} {q : Nat} {e0 e' : zE} (hw : gWf G) (h0 : G.2.2 q = some e0) (hm : mKq e0) (h9 : ∀ fs, e0 ≠ .inr (9, fs)) : mSq 0 0 G (gUp G q e') :=
  ⟨(gFr.up (hw _ _ h0)).mono (fun _ _ p => by subst p; exact ⟨e0, h0, hm⟩) (Nat.le_refl _) (Nat.le_refl _),
   gKeep.up h0 h9 (by
    intro m g q
    subst q
    rcases hm with ⟨c, fs, q, -⟩ | ⟨c, n, f, q, -⟩ <;> cases q)⟩
theorem mSq.wf {k n : Nat} {G G' : gH} (h : mSq k n G G') (hw : gWf G) : gWf G' := h.1.2.2.2.2.1 hw
/-- null into an array of parts or of cursors -/
theorem gStN_k {G : gH} {a c n i : Nat} {f : Nat → Option Nat} {k : gH → gR} (h : G.2.2 a = some (zQ c n f)) (hi : i < n) (hn : n < 2 ^ 31) : gStN G a c (nI i) k = k (gUp G a (zQ c n (va_up f i none))) := by
  unfold gStN gAqW; rw [h]; simp [gIn_nI hi hn, nI_clamp (Nat.lt_trans hi hn)]
def mEndC (A : mS) (c : Nat) : mS := mSet (A.1, A.2.1, va_up A.2.2.1 c none, A.2.2.2) 3 (A.2.2.2 3 + nI 1)
def dS (D : mD) (F : (Nat → Option Nat) × (Nat → Option Nat)) : mD := (D.1, D.2.1, D.2.2.1, D.2.2.2.1, F)
def dCur (D : mD) (f : Nat → Option Nat) : mD := (D.1, D.2.1, D.2.2.1, D.2.2.2.1, D.2.2.2.2.1, f)
def dPart (D : mD) (f : Nat → Option Nat) : mD := (D.1, D.2.1, D.2.2.1, D.2.2.2.1, f, D.2.2.2.2.2)
theorem mIn.none {n : Nat} {f : Nat → Option Nat} (h : mIn n f) (i : Nat) : mIn n (va_up f i none) := by
  intro a b q la lb ha hb
  simp only [va_up] at ha hb
  by_cases h1 : a = i
  · rw [if_pos h1] at ha; cases ha
  · by_cases h2 : b = i
    · rw [if_pos h2] at hb; cases hb
    · rw [if_neg h1] at ha; rw [if_neg h2] at hb; exact h a b q la lb ha hb
theorem MRep.endC {w : Nat → Nat} {G : gH} {o : Nat} {A : mS} {D : mD} (h : MRep w G o A D) (c : Nat) : MRep w (gUp G D.1.2.2.2 (zQ 105 3 (va_up D.2.2.2.2.2 c none))) o (A.1, A.2.1, va_up A.2.2.1 c none, A.2.2.2) (dCur D (va_up D.2.2.2.2.2 c none)) := by
  obtain ⟨k1, k2, k3, k4, k5, k6, k7, k8, k9, k10⟩ := h
  have hk : gSm (fun e => ∀ f, e ≠ zQ 105 3 f) G (gUp G D.1.2.2.2 (zQ 105 3 (va_up D.2.2.2.2.2 c none))) := gSm.up k5 (fun q => q _ rfl)
  have hel : gKeep G (gUp G D.1.2.2.2 (zQ 105 3 (va_up D.2.2.2.2.2 c none))) := gKeep.up k5 (fun _ q => by cases q) (fun _ _ q => by cases q)
  have hN : mN3 (fun e => ∀ f, e ≠ zQ 105 3 f) := by
    refine ⟨fun fs f q => (by cases q), fun c n f hc f' q => ?_, fun g f q => (by cases q)⟩
    obtain ⟨rfl, -, -⟩ := zQ_inj (congrArg some q)
    exact absurd hc (by decide)
  refine ⟨hk _ _ k1 (fun f q => by cases q), k2.tr hN hk hel, fun i hi => (k3 i hi).tr hN hk hel, hk _ _ k4 (fun f q => by have := (zQ_inj (congrArg some q)).1; omega), gUp_at, fun i hi t ht => (k6 i hi t ht).tr hN hk,
    fun p hp => (k7 p hp).tr (fun fs f q => by cases q) hk, fun c' hc' => ?_, ⟨k9.1, k9.2.1, k9.2.2.1, k9.2.2.2.1, k9.2.2.2.2.none c⟩, k10⟩
  show mCu _ (va_up A.2.2.1 c none c') (va_up D.2.2.2.2.2 c none c')
  simp only [va_up]
  by_cases e : c' = c
  · rw [if_pos e, if_pos e]; exact True.intro
  · rw [if_neg e, if_neg e]; exact (k8 c' hc').tr (fun fs f q => by cases q) hk
theorem m_endCursor {w : Nat → Nat} {G : gH} {o : Nat} {A : mS} {D : mD} (hw : gWf G) (h : MRep w G o A D) {c : Nat} (hc : c < 3) :
    ∃ G', f_M_endCursor G o (nI c) = rV G' ∧ MRep w G' o (mEndC A c) (dCur D (va_up D.2.2.2.2.2 c none)) ∧ mSq 0 0 G G' := by
  have h1 := h.endC c
  have s1 : mSq 0 0 G (gUp G D.1.2.2.2 (zQ 105 3 (va_up D.2.2.2.2.2 c none))) := mSq.up hw h.2.2.2.2.1 (Or.inr ⟨_, _, _, rfl, by decide⟩) (fun _ q => by cases q)
  refine ⟨_, ?_, h1.setI 3 _, s1.trans (mSq.up (s1.wf hw) h1.1 (Or.inl ⟨6, _, rfl, by omega⟩) (fun _ q => by cases q))⟩
  unfold f_M_endCursor
  rw [gFA_of h.1 rfl rfl, gStN_k h.2.2.2.2.1 hc (by omega), m_int h1 (j := 3) (i := 6) (by omega) rfl, m_put h1 (j := 3) (i := 6) (by omega) rfl]

theorem MRep.endP {w : Nat → Nat} {G : gH} {o : Nat} {A : mS} {D : mD} (h : MRep w G o A D) (p : Nat) : MRep w (gUp G D.1.2.2.1 (zQ 104 6 (va_up D.2.2.2.2.1 p none))) o (A.1, va_up A.2.1 p none, A.2.2.1, A.2.2.2) (dPart D (va_up D.2.2.2.2.1 p none)) := by
  obtain ⟨k1, k2, k3, k4, k5, k6, k7, k8, k9, k10⟩ := h
  have hk : gSm (fun e => ∀ f, e ≠ zQ 104 6 f) G (gUp G D.1.2.2.1 (zQ 104 6 (va_up D.2.2.2.2.1 p none))) := gSm.up k4 (fun q => q _ rfl)
  have hel : gKeep G (gUp G D.1.2.2.1 (zQ 104 6 (va_up D.2.2.2.2.1 p none))) := gKeep.up k4 (fun _ q => by cases q) (fun _ _ q => by cases q)
  have hN : mN3 (fun e => ∀ f, e ≠ zQ 104 6 f) := by
    refine ⟨fun fs f q => (by cases q), fun c n f hc f' q => ?_, fun g f q => (by cases q)⟩
    obtain ⟨rfl, -, -⟩ := zQ_inj (congrArg some q)
    exact absurd hc (by decide)
  refine ⟨hk _ _ k1 (fun f q => by cases q), k2.tr hN hk hel, fun i hi => (k3 i hi).tr hN hk hel, gUp_at, hk _ _ k5 (fun f q => by have := (zQ_inj (congrArg some q)).1; omega), fun i hi t ht => (k6 i hi t ht).tr hN hk,
    fun p' hp' => ?_, fun c hc => (k8 c hc).tr (fun fs f q => by cases q) hk, ⟨k9.1, k9.2.1, k9.2.2.1, k9.2.2.2.1.none p, k9.2.2.2.2⟩, k10⟩
  show mPt _ (va_up A.2.1 p none p') (va_up D.2.2.2.2.1 p none p')
  simp only [va_up]
  by_cases e : p' = p
  · rw [if_pos e, if_pos e]; exact True.intro
  · rw [if_neg e, if_neg e]; exact (k7 p' hp').tr (fun fs f q => by cases q) hk

-- a part and all that stand on it come to their end
def mEPst (r : mS → Nat → mS × Nat) (p : Nat) (s : mS × Nat) (q : Nat) : mS × Nat := match s.1.2.1 q with
  | some x => if x.1 = p then ((r s.1 q).1, s.2 + (r s.1 q).2) else s
  | none => s
def mECst (p : Nat) (A : mS) (c : Nat) : mS := match A.2.2.1 c with
  | some x => if x.1 = p then mEndC A c else A
  | none => A
def mEPz (p : Nat) (A : mS) : mS := mSet (A.1, va_up A.2.1 p none, A.2.2.1, A.2.2.2) 2 (A.2.2.2 2 + nI 1)
def mEPb (r : mS → Nat → mS × Nat) (A : mS) (p : Nat) : mS × Nat :=
  (mEPz p ((List.range' 0 3).foldl (mECst p) ((List.range' 2 4).foldl (mEPst r p) (A, 1)).1), ((List.range' 2 4).foldl (mEPst r p) (A, 1)).2)
def mEP : Nat → mS → Nat → mS × Nat
  | 0, A, _ => (A, 0)
  | d + 1, A, p => mEPb (mEP d) A p
def mDeep : Nat → (Nat → Option (Nat × Nat × Nat)) → Nat → Prop
  | 0, _, _ => False
  | d + 1, P, p => ∀ q x, 2 ≤ q → q < 6 → P q = some x → x.1 = p → mDeep d P q
def mSub (P' P : Nat → Option (Nat × Nat × Nat)) : Prop := ∀ q x, P' q = some x → P q = some x
theorem mDeep.sub {P P' : Nat → Option (Nat × Nat × Nat)} (hs : mSub P' P) : ∀ (d p : Nat), mDeep d P p → mDeep d P' p
  | 0, _, h => h
  | d + 1, p, h => fun q x h1 h2 h3 h4 => (h q x h1 h2 (hs q x h3) h4).sub hs d q
theorem mECst_P {p : Nat} {A : mS} {c : Nat} : (mECst p A c).2.1 = A.2.1 := by
  unfold mECst
  cases A.2.2.1 c with
  | none => rfl
  | some x =>
    show (if x.1 = p then mEndC A c else A).2.1 = _
    split <;> rfl
theorem mECst_Ps {p : Nat} : ∀ (l : List Nat) (A : mS), (l.foldl (mECst p) A).2.1 = A.2.1
  | [], _ => rfl
  | c :: l, A => by rw [List.foldl_cons, mECst_Ps l, mECst_P]
theorem m_ep48 {w : Nat → Nat} {o p : Nat} {x2 : Int32} {rec : gH → Nat → Int32 → gR} {K : gH → Nat → Int32 → Int32 → gR} (hp : p < 6) : ∀ (k j n : Nat) (G : gH) (A : mS) (D : mD), j + k = 3 → k < n → gWf G → MRep w G o A D →
    ∃ (G' : gH) (D' : (Nat → Option Nat) × (Nat → Option Nat)), f_M_endPart_L48 rec K n G o (nI p) x2 (nI j) = K G' o (nI p) x2 ∧ MRep w G' o ((List.range' j k).foldl (mECst p) A) (dS D D') ∧ mSq 0 0 G G'
  | _, _, 0, _, _, _, _, hn, _, _ => absurd hn (Nat.not_lt_zero _)
  | 0, j, n + 1, G, A, D, hj, _, hw, h => by
    refine ⟨G, D.2.2.2.2, ?_, h, mSq.refl⟩
    unfold f_M_endPart_L48
    rw [if_pos (nI_le (by omega) (by omega))]
  | k + 1, j, n + 1, G, A, D, hj, hn, hw, h => by
    have hj3 : j < 3 := by omega
    unfold f_M_endPart_L48
    rw [if_neg (nI_ge hj3 (by omega)), gFA_of h.1 rfl rfl, List.range'_succ, List.foldl_cons, nI_add]
    cases hc : A.2.2.1 j with
    | none =>
      rw [gLdq_no h.2.2.2.2.1 rfl hj3 (by omega) (h.nocur hj3 hc)]
      have e : mECst p A j = A := by unfold mECst; rw [hc]
      rw [e]
      exact m_ep48 hp k (j + 1) n G A D (by omega) (by omega) hw h
    | some x =>
      obtain ⟨q, e1, e2, e3, e4⟩ := h.cur hj3 hc
      rw [gLdq_of h.2.2.2.2.1 rfl hj3 (by omega) e1, gFA_of h.1 rfl rfl, gLdq_of h.2.2.2.2.1 rfl hj3 (by omega) e1, gFI_of e4 rfl rfl]
      by_cases hx : x.1 = p
      · have e : mECst p A j = mEndC A j := by unfold mECst; rw [hc]; exact if_pos hx
        obtain ⟨G1, r1, r2, r3⟩ := m_endCursor hw h hj3
        obtain ⟨G', D', z1, z2, z3⟩ := m_ep48 (rec := rec) (K := K) (x2 := x2) hp k (j + 1) n G1 _ _ (by omega) (by omega) (r3.wf hw) r2
        refine ⟨G', D', ?_, by rw [e]; exact z2, r3.trans z3⟩
        rw [if_pos (by rw [hx]), gOb_of h.1 rfl, r1]
        exact z1
      · have e : mECst p A j = A := by unfold mECst; rw [hc]; exact if_neg hx
        rw [if_neg (fun q => hx ((nI_eq (by omega) (by omega)).mp q)), e]
        exact m_ep48 hp k (j + 1) n G A D (by omega) (by omega) hw h
theorem m_ep4 {w : Nat → Nat} {o p d : Nat} {r : mS → Nat → mS × Nat} {rec : gH → Nat → Int32 → gR} {K : gH → Nat → Int32 → Int32 → gR} (hp : p < 6)
    (hr : ∀ (G : gH) (A : mS) (D : mD) (q : Nat), gWf G → MRep w G o A D → 2 ≤ q → q < 6 → mDeep d A.2.1 q → ∃ (G' : gH) (D' : (Nat → Option Nat) × (Nat → Option Nat)), rec G o (nI q) = rI (nI (r A q).2) G' ∧ MRep w G' o (r A q).1 (dS D D') ∧ mSq 0 0 G G' ∧ mSub (r A q).1.2.1 A.2.1) :
    ∀ (k j n c : Nat) (G : gH) (A : mS) (D : mD), j + k = 6 → 2 ≤ j → k < n → gWf G → MRep w G o A D → mDeep (d + 1) A.2.1 p →
    ∃ (G' : gH) (D' : (Nat → Option Nat) × (Nat → Option Nat)), f_M_endPart_L4 rec K n G o (nI p) (nI c) (nI j) = K G' o (nI p) (nI ((List.range' j k).foldl (mEPst r p) (A, c)).2) ∧ MRep w G' o ((List.range' j k).foldl (mEPst r p) (A, c)).1 (dS D D') ∧ mSq 0 0 G G' ∧ mSub ((List.range' j k).foldl (mEPst r p) (A, c)).1.2.1 A.2.1
  | _, _, 0, _, _, _, _, _, _, hn, _, _, _ => absurd hn (Nat.not_lt_zero _)
  | 0, j, n + 1, c, G, A, D, hj, _, _, hw, h, _ => by
    refine ⟨G, D.2.2.2.2, ?_, h, mSq.refl, fun _ _ q => q⟩
    unfold f_M_endPart_L4
    rw [if_pos (nI_le (by omega) (by omega))]
    rfl
  | k + 1, j, n + 1, c, G, A, D, hj, hj2, hn, hw, h, hd => by
    have hj6 : j < 6 := by omega
    unfold f_M_endPart_L4
    rw [if_neg (nI_ge hj6 (by omega)), gFA_of h.1 rfl rfl, List.range'_succ, List.foldl_cons, nI_add]
    cases hc : A.2.1 j with
    | none =>
      rw [gLdq_no h.2.2.2.1 rfl hj6 (by omega) (h.nopart hj6 hc)]
      have e : mEPst r p (A, c) j = (A, c) := by unfold mEPst; rw [hc]
      rw [e]
      exact m_ep4 hp hr k (j + 1) n c G A D (by omega) (by omega) (by omega) hw h hd
    | some x =>
      obtain ⟨q, e1, e2, e3, e4, e5⟩ := h.part hj6 hc
      rw [gLdq_of h.2.2.2.1 rfl hj6 (by omega) e1, gFA_of h.1 rfl rfl, gLdq_of h.2.2.2.1 rfl hj6 (by omega) e1, gFI_of e5 rfl rfl]
      by_cases hx : x.1 = p
      · have e : mEPst r p (A, c) j = ((r A j).1, c + (r A j).2) := by unfold mEPst; rw [hc]; exact if_pos hx
        obtain ⟨G1, D1, r1, r2, r3, r4⟩ := hr G A D j hw h hj2 hj6 (hd j x hj2 hj6 hc hx)
        obtain ⟨G', D', z1, z2, z3, z4⟩ := m_ep4 hp hr k (j + 1) n (c + (r A j).2) G1 _ _ (by omega) (by omega) (by omega) (r3.wf hw) r2 (hd.sub r4)
        refine ⟨G', D', ?_, by rw [e]; exact z2, r3.trans z3, by rw [e]; exact fun q x hq => r4 q x (z4 q x hq)⟩
        rw [if_pos (by rw [hx]), gOb_of h.1 rfl, r1, e]
        show f_M_endPart_L4 rec K n G1 o (nI p) (nI c + nI (r A j).2) (nI (j + 1)) = _
        rw [nI_add]
        exact z1
      · have e : mEPst r p (A, c) j = (A, c) := by unfold mEPst; rw [hc]; exact if_neg hx
        rw [if_neg (fun q => hx ((nI_eq (by omega) (by omega)).mp q)), e]
        exact m_ep4 hp hr k (j + 1) n c G A D (by omega) (by omega) (by omega) hw h hd
theorem m_endPart {w : Nat → Nat} {o : Nat} : ∀ (d : Nat) (G : gH) (A : mS) (D : mD) (p : Nat), gWf G → MRep w G o A D → 2 ≤ p → p < 6 → mDeep d A.2.1 p →
    ∃ (G' : gH) (D' : (Nat → Option Nat) × (Nat → Option Nat)), f_M_endPart d G o (nI p) = rI (nI (mEP d A p).2) G' ∧ MRep w G' o (mEP d A p).1 (dS D D') ∧ mSq 0 0 G G' ∧ mSub (mEP d A p).1.2.1 A.2.1
  | 0, _, _, _, _, _, _, _, _, hd => hd.elim
  | d + 1, G, A, D, p, hw, h, hp2, hp, hd => by
    obtain ⟨G1, D1, a1, a2, a3, a4⟩ := m_ep4 (K := fun G16 x13 x14 x15 => f_M_endPart_L48 (f_M_endPart d) (fun G31 x28 x29 x30 => gFA G31 x28 6 2 fun v32 => gStN G31 v32 104 x29 fun G33 => gFI G33 x28 6 5 fun v34 => gPut G33 x28 6 5 (.int (v34 + (nI 1))) fun G35 => rI x30 G35) zFu G16 x13 x14 x15 (nI 0))
      hp (m_endPart d) 4 2 zFu 1 G A D rfl (Nat.le_refl _) (by unfold zFu; omega) hw h hd
    obtain ⟨G2, D2, b1, b2, b3⟩ := m_ep48 (rec := f_M_endPart d) (x2 := nI ((List.range' 2 4).foldl (mEPst (mEP d) p) (A, 1)).2) (K := fun G31 x28 x29 x30 => gFA G31 x28 6 2 fun v32 => gStN G31 v32 104 x29 fun G33 => gFI G33 x28 6 5 fun v34 => gPut G33 x28 6 5 (.int (v34 + (nI 1))) fun G35 => rI x30 G35)
      hp 3 0 zFu G1 _ (dS D D1) rfl (by unfold zFu; omega) (a3.wf hw) a2
    have h1 := b2.endP p
    have s0 := a3.trans b3
    have s1 : mSq 0 0 G2 (gUp G2 (dS D D2).1.2.2.1 (zQ 104 6 (va_up D2.1 p none))) := mSq.up (s0.wf hw) b2.2.2.2.1 (Or.inr ⟨_, _, _, rfl, by decide⟩) (fun _ q => by cases q)
    refine ⟨_, (va_up D2.1 p none, D2.2), ?_, h1.setI 2 _, (s0.trans s1).trans (mSq.up ((s0.trans s1).wf hw) h1.1 (Or.inl ⟨6, _, rfl, by omega⟩) (fun _ q => by cases q)), ?_⟩
    · unfold f_M_endPart f_M_endPart_B
      rw [a1, b1]
      show gFA G2 o 6 2 _ = _
      rw [gFA_of b2.1 rfl rfl, gStN_k b2.2.2.2.1 hp (by omega), m_int h1 (j := 2) (i := 5) (by omega) rfl, m_put h1 (j := 2) (i := 5) (by omega) rfl]
      rfl
    · intro q x hq
      refine a4 q x ?_
      have hq' : va_up ((List.range' 0 3).foldl (mECst p) ((List.range' 2 4).foldl (mEPst (mEP d) p) (A, 1)).1).2.1 p none q = some x := hq
      rw [mECst_Ps] at hq'
      simp only [va_up] at hq'
      by_cases e : q = p
      · rw [if_pos e] at hq'; cases hq'
      · rw [if_neg e] at hq'; exact hq'

-- parts stand on rows or on open parts, and not in a ring
def mDom (P : Nat → Option (Nat × Nat × Nat)) : Prop := ∀ q x, P q = some x → 2 ≤ q ∧ q < 6
def mCl (P : Nat → Option (Nat × Nat × Nat)) : Prop := ∀ q x, P q = some x → x.1 < 2 ∨ P x.1 ≠ none
def mOk (P : Nat → Option (Nat × Nat × Nat)) : Prop := mDom P ∧ ∃ ρ : Nat → Nat, (∀ q, ρ q < 6) ∧ ∀ q x, P q = some x → x.1 < 2 ∨ (P x.1 ≠ none ∧ ρ x.1 < ρ q)
theorem mSub.trans {P P1 P2 : Nat → Option (Nat × Nat × Nat)} (h1 : mSub P1 P) (h2 : mSub P2 P1) : mSub P2 P := fun q x h => h1 q x (h2 q x h)
theorem mDom.sub {P P' : Nat → Option (Nat × Nat × Nat)} (h : mDom P) (hs : mSub P' P) : mDom P' := fun q x hq => h q x (hs q x hq)
theorem mOk.cl {P : Nat → Option (Nat × Nat × Nat)} (h : mOk P) : mCl P := by
  obtain ⟨-, ρ, -, h2⟩ := h
  exact fun q x hq => (h2 q x hq).imp_right And.left
theorem mOk.sub {P P' : Nat → Option (Nat × Nat × Nat)} (h : mOk P) (hs : mSub P' P) (hc : mCl P') : mOk P' := by
  obtain ⟨h0, ρ, h1, h2⟩ := h
  refine ⟨h0.sub hs, ρ, h1, fun q x hq => ?_⟩
  rcases hc q x hq with k | k
  · exact Or.inl k
  · rcases h2 q x (hs q x hq) with k2 | k2
    · exact Or.inl k2
    · exact Or.inr ⟨k, k2.2⟩
theorem mOk.deep {P : Nat → Option (Nat × Nat × Nat)} (h : mOk P) {p : Nat} (hp : 2 ≤ p) : mDeep zDp P p := by
  obtain ⟨h0, ρ, h1, h2⟩ := h
  have key : ∀ (d p : Nat), 2 ≤ p → 6 ≤ ρ p + d → mDeep d P p := by
    intro d
    induction d with
    | zero => intro p _ h; exact absurd (h1 p) (by omega)
    | succ d ih =>
      intro p hp h q x hq1 hq2 hq hx
      refine ih q hq1 ?_
      rcases h2 q x hq with k | k
      · omega
      · rw [hx] at k; omega
  exact key zDp p hp (by unfold zDp; omega)
theorem mOk.rw' {P : Nat → Option (Nat × Nat × Nat)} (h : mOk P) {p : Nat} (hp : p < 2 ∨ P p ≠ none) : ∃ r b, mRw P zDp p = some (r, b) := by
  obtain ⟨h0, ρ, h1, h2⟩ := h
  have key : ∀ (d p : Nat), (p < 2 ∧ 1 ≤ d) ∨ (P p ≠ none ∧ ρ p + 2 ≤ d) → ∃ r b, mRw P d p = some (r, b) := by
    intro d
    induction d with
    | zero => intro p h; omega
    | succ d ih =>
      intro p h
      unfold mRw
      by_cases hp : p < 2
      · exact ⟨p, 0, if_pos hp⟩
      · rw [if_neg hp]
        cases hq : P p with
        | none => rcases h with h | h; · omega
                  · exact absurd hq h.1
        | some x =>
          obtain ⟨o', f, l⟩ := x
          have hk : (o' < 2 ∧ 1 ≤ d) ∨ (P o' ≠ none ∧ ρ o' + 2 ≤ d) := by
            rcases h2 p _ hq with k | k
            · refine Or.inl ⟨k, ?_⟩
              rcases h with h | h <;> omega
            · refine Or.inr ⟨k.1, ?_⟩
              have := k.2
              rcases h with h | h <;> simp only at this <;> omega
          obtain ⟨r, b, e⟩ := ih o' hk
          exact ⟨r, f + b, by simp only [e]; rfl⟩
  refine key zDp p ?_
  rcases hp with hp | hp
  · exact Or.inl ⟨hp, by unfold zDp; omega⟩
  · exact Or.inr ⟨hp, by have := h1 p; unfold zDp; omega⟩
theorem mEPs_cl {d p : Nat} {r : mS → Nat → mS × Nat}
    (hr : ∀ (A : mS) (q : Nat), mDom A.2.1 → mCl A.2.1 → mDeep d A.2.1 q → mCl (r A q).1.2.1 ∧ (r A q).1.2.1 q = none ∧ mSub (r A q).1.2.1 A.2.1) :
    ∀ (k j : Nat) (s : mS × Nat), j + k = 6 → mDom s.1.2.1 → mCl s.1.2.1 → mDeep (d + 1) s.1.2.1 p → (∀ q x, q < j → s.1.2.1 q = some x → x.1 ≠ p) →
    mCl ((List.range' j k).foldl (mEPst r p) s).1.2.1 ∧ mSub ((List.range' j k).foldl (mEPst r p) s).1.2.1 s.1.2.1 ∧ ∀ q x, ((List.range' j k).foldl (mEPst r p) s).1.2.1 q = some x → x.1 ≠ p
  | 0, j, s, hj, h1, h2, h3, h4 => ⟨h2, fun _ _ q => q, fun q x hq => h4 q x (by have := (h1 q x hq).2; omega) hq⟩
  | k + 1, j, s, hj, h1, h2, h3, h4 => by
    rw [List.range'_succ, List.foldl_cons]
    obtain ⟨A, c⟩ := s
    cases hc : A.2.1 j with
    | none =>
      have e : mEPst r p (A, c) j = (A, c) := by unfold mEPst; rw [hc]
      rw [e]
      refine mEPs_cl hr k (j + 1) (A, c) (by omega) h1 h2 h3 (fun q x hq hx => ?_)
      by_cases hqj : q = j
      · subst hqj; exact absurd (hc.symm.trans hx) (Option.some_ne_none _).symm
      · exact h4 q x (by omega) hx
    | some x =>
      by_cases hx : x.1 = p
      · have e : mEPst r p (A, c) j = ((r A j).1, c + (r A j).2) := by unfold mEPst; rw [hc]; exact if_pos hx
        obtain ⟨k1, k2, k3⟩ := hr A j h1 h2 (h3 j x (h1 j x hc).1 (h1 j x hc).2 hc hx)
        rw [e]
        obtain ⟨z1, z2, z3⟩ := mEPs_cl hr k (j + 1) ((r A j).1, c + (r A j).2) (by omega) (h1.sub k3) k1 (h3.sub k3) (fun q x hq hx => by
          by_cases hqj : q = j
          · subst hqj; exact absurd (k2.symm.trans hx) (Option.some_ne_none _).symm
          · exact h4 q x (by omega) (k3 q x hx))
        exact ⟨z1, mSub.trans k3 z2, z3⟩
      · have e : mEPst r p (A, c) j = (A, c) := by unfold mEPst; rw [hc]; exact if_neg hx
        rw [e]
        refine mEPs_cl hr k (j + 1) (A, c) (by omega) h1 h2 h3 (fun q y hq hy => ?_)
        by_cases hqj : q = j
        · subst hqj
          rw [← Option.some.inj (hc.symm.trans hy)]
          exact hx
        · exact h4 q y (by omega) hy
theorem mEP_cl : ∀ (d : Nat) (A : mS) (p : Nat), mDom A.2.1 → mCl A.2.1 → mDeep d A.2.1 p → mCl (mEP d A p).1.2.1 ∧ (mEP d A p).1.2.1 p = none ∧ mSub (mEP d A p).1.2.1 A.2.1
  | 0, _, _, _, _, h => h.elim
  | d + 1, A, p, h1, h2, h3 => by
    obtain ⟨z1, z2, z3⟩ := mEPs_cl (mEP_cl d) 4 2 (A, 1) rfl h1 h2 h3 (fun q x hq hx => by have := (h1 q x hx).1; omega)
    have e : (mEP (d + 1) A p).1.2.1 = va_up ((List.range' 2 4).foldl (mEPst (mEP d) p) (A, 1)).1.2.1 p none := by
      show va_up ((List.range' 0 3).foldl (mECst p) _).2.1 p none = _
      rw [mECst_Ps]
    rw [e]
    refine ⟨fun q x hq => ?_, by simp [va_up], fun q x hq => ?_⟩
    · simp only [va_up] at hq ⊢
      by_cases hqp : q = p
      · rw [if_pos hqp] at hq; cases hq
      · rw [if_neg hqp] at hq
        rw [if_neg (z3 q x hq)]
        exact z1 q x hq
    · simp only [va_up] at hq
      by_cases hqp : q = p
      · rw [if_pos hqp] at hq; cases hq
      · rw [if_neg hqp] at hq; exact z2 q x hq
theorem mOk.endP {A : mS} (h : mOk A.2.1) {p : Nat} (hp : 2 ≤ p) : mOk (mEP zDp A p).1.2.1 := by
  obtain ⟨z1, -, z3⟩ := mEP_cl zDp A p h.1 h.cl (h.deep hp)
  exact h.sub z3 z1

-- the way from a list to its row
def mAb (P : Nat → Option (Nat × Nat × Nat)) : Nat → Nat → Nat → Bool
  | 0, _, _ => false
  | d + 1, x, p => if x = p then true else if p < 2 then false else match P p with
    | none => false
    | some y => mAb P d x y.1
theorem m_isAbove {w : Nat → Nat} {G : gH} {o : Nat} {A : mS} {D : mD} (h : MRep w G o A D) : ∀ (d x p r b : Nat), x < 6 → p < 6 → mRw A.2.1 d p = some (r, b) → f_M_isAbove d G o (nI x) (nI p) = rZ (mB (mAb A.2.1 d x p)) G
  | 0, _, _, _, _, _, _, k => by cases k
  | d + 1, x, p, r, b, hx6, hp, k => by
    unfold mRw at k
    unfold f_M_isAbove f_M_isAbove_B mAb
    by_cases hx : x = p
    · rw [if_pos (by rw [hx]), if_pos hx]; rfl
    · rw [if_neg (fun q => hx ((nI_eq (by omega) (by omega)).mp q)), if_neg hx]
      by_cases h2 : p < 2
      · rw [if_pos (nI_lt h2 (by omega)), if_pos h2]; rfl
      · rw [if_neg h2] at k
        rw [if_neg (nI_nlt (by omega) (by omega)), if_neg h2]
        cases hq : A.2.1 p with
        | none => rw [hq] at k; cases k
        | some y =>
          rw [hq] at k
          obtain ⟨q, e1, e2, e3, e4, e5⟩ := h.part hp hq
          obtain ⟨o', f, l⟩ := y
          simp only at k e2 e3 e4 e5
          cases hr : mRw A.2.1 d o' with
          | none => rw [hr] at k; cases k
          | some y =>
            obtain ⟨r', b'⟩ := y
            rw [gFA_of h.1 rfl rfl, gLdq_of h.2.2.2.1 rfl hp (by omega) e1, gFI_of e5 rfl rfl, gOb_of h.1 rfl, m_isAbove h d x o' _ _ hx6 e2 hr, mB_Z]
            show _ = rZ (mB (mAb A.2.1 d x o')) G
            generalize mAb A.2.1 d x o' = b1
            cases b1 <;> rfl
theorem mAb.closed {P : Nat → Option (Nat × Nat × Nat)} : ∀ (d e r b : Nat), mRw P d e = some (r, b) → ∀ q, mAb P d q e = true → 2 ≤ q → ∃ x, P q = some x ∧ mAb P d x.1 e = true
  | 0, _, _, _, h => by cases h
  | d + 1, e, r, b, h => by
    intro q hq hq2
    unfold mRw at h
    unfold mAb at hq ⊢
    by_cases he : e < 2
    · by_cases hqe : q = e
      · omega
      · rw [if_neg hqe, if_pos he] at hq; cases hq
    · rw [if_neg he] at h
      cases hP : P e with
      | none => rw [hP] at h; cases h
      | some y =>
        rw [hP] at h hq
        obtain ⟨o', f, l⟩ := y
        simp only at h
        cases hr : mRw P d o' with
        | none => rw [hr] at h; cases h
        | some z =>
          obtain ⟨r', b'⟩ := z
          by_cases hqe : q = e
          · subst hqe
            refine ⟨(o', f, l), hP, ?_⟩
            by_cases hoe : o' = q
            · rw [if_pos hoe]
            · rw [if_neg hoe, if_neg he]
              show mAb P d o' o' = true
              cases d with
              | zero => cases hr
              | succ d => unfold mAb; rw [if_pos rfl]
          · rw [if_neg hqe, if_neg he] at hq
            obtain ⟨x, k1, k2⟩ := mAb.closed d o' r' b' hr q hq hq2
            refine ⟨x, k1, ?_⟩
            by_cases hxe : x.1 = e
            · rw [if_pos hxe]
            · rw [if_neg hxe, if_neg he]; exact k2
theorem mAb.congr {P P' : Nat → Option (Nat × Nat × Nat)} : ∀ (d e : Nat), (∀ q, mAb P d q e = true → 2 ≤ q → P' q = P q) → (∀ q, mAb P' d q e = mAb P d q e) ∧ mRw P' d e = mRw P d e
  | 0, _, _ => ⟨fun _ => rfl, rfl⟩
  | d + 1, e, h => by
    by_cases he : e < 2
    · refine ⟨fun q => ?_, ?_⟩
      · unfold mAb; rw [if_pos he, if_pos he]
      · unfold mRw; rw [if_pos he, if_pos he]
    · have e1 : P' e = P e := h e (by unfold mAb; rw [if_pos rfl]) (by omega)
      cases hP : P e with
      | none =>
        refine ⟨fun q => ?_, ?_⟩
        · unfold mAb; rw [e1, hP]
        · unfold mRw; rw [e1, hP]
      | some y =>
        obtain ⟨o', f, l⟩ := y
        have ih := mAb.congr (P := P) (P' := P') d o' (fun q hq hq2 => h q (by
          unfold mAb
          rw [hP]
          by_cases hqe : q = e
          · rw [if_pos hqe]
          · rw [if_neg hqe, if_neg he]; exact hq) hq2)
        refine ⟨fun q => ?_, ?_⟩
        · unfold mAb; rw [e1, hP]; simp only [ih.1]
        · unfold mRw; rw [e1, hP]; simp only [ih.2]
def mKc (K : Nat → Prop) (P : Nat → Option (Nat × Nat × Nat)) : Prop := ∀ q, K q → 2 ≤ q → ∃ x, P q = some x ∧ K x.1
theorem mKc.of {K : Nat → Prop} {P P' : Nat → Option (Nat × Nat × Nat)} (h : mKc K P) (he : ∀ q, K q → 2 ≤ q → P' q = P q) : mKc K P' := fun q hq h2 => by
  rw [he q hq h2]; exact h q hq h2
theorem mEPs_keep {K : Nat → Prop} {p : Nat} {r : mS → Nat → mS × Nat} (hp : ¬ K p) (hr : ∀ (A : mS) (q : Nat), mKc K A.2.1 → ¬ K q → ∀ q', K q' → 2 ≤ q' → (r A q).1.2.1 q' = A.2.1 q') :
    ∀ (l : List Nat) (s : mS × Nat), (∀ q, q ∈ l → 2 ≤ q) → mKc K s.1.2.1 → ∀ q', K q' → 2 ≤ q' → (l.foldl (mEPst r p) s).1.2.1 q' = s.1.2.1 q'
  | [], _, _, _, _, _, _ => rfl
  | j :: l, s, hl, hc, q', hq', h2 => by
    obtain ⟨A, c⟩ := s
    rw [List.foldl_cons]
    have hl' : ∀ q, q ∈ l → 2 ≤ q := fun q hq => hl q (List.mem_cons_of_mem _ hq)
    cases hP : A.2.1 j with
    | none =>
      have e : mEPst r p (A, c) j = (A, c) := by unfold mEPst; rw [hP]
      rw [e]; exact mEPs_keep hp hr l (A, c) hl' hc q' hq' h2
    | some x =>
      by_cases hx : x.1 = p
      · have e : mEPst r p (A, c) j = ((r A j).1, c + (r A j).2) := by unfold mEPst; rw [hP]; exact if_pos hx
        have hj : ¬ K j := by
          intro hj
          obtain ⟨y, hy, hK⟩ := hc j hj (hl j (List.mem_cons_self ..))
          rw [← Option.some.inj (hP.symm.trans hy), hx] at hK
          exact hp hK
        have hs := hr A j hc hj
        rw [e, mEPs_keep hp hr l ((r A j).1, c + (r A j).2) hl' (hc.of hs) q' hq' h2]
        exact hs q' hq' h2
      · have e : mEPst r p (A, c) j = (A, c) := by unfold mEPst; rw [hP]; exact if_neg hx
        rw [e]; exact mEPs_keep hp hr l (A, c) hl' hc q' hq' h2
theorem mEP_keep {K : Nat → Prop} : ∀ (d : Nat) (A : mS) (p : Nat), mKc K A.2.1 → ¬ K p → ∀ q', K q' → 2 ≤ q' → (mEP d A p).1.2.1 q' = A.2.1 q'
  | 0, _, _, _, _, _, _, _ => rfl
  | d + 1, A, p, hc, hp, q', hq', h2 => by
    have e : (mEP (d + 1) A p).1.2.1 = va_up ((List.range' 2 4).foldl (mEPst (mEP d) p) (A, 1)).1.2.1 p none := by
      show va_up ((List.range' 0 3).foldl (mECst p) _).2.1 p none = _
      rw [mECst_Ps]
    rw [e]
    simp only [va_up]
    rw [if_neg (fun q => hp (by rw [← q]; exact hq')), mEPs_keep hp (mEP_keep d) _ (A, 1) (fun q hq => by have := List.mem_range'.mp hq; omega) hc q' hq' h2]

-- the parts on a row come to their end, but those on the way of one list
def mRo (P : Nat → Option (Nat × Nat × Nat)) (p : Nat) : Nat := match mRw P zDp p with
  | some x => x.1
  | none => 0
def mESt (r exc : Nat) (s : mS × Nat) (q : Nat) : mS × Nat := match s.1.2.1 q with
  | some _ => if mRo s.1.2.1 q = r ∧ mAb s.1.2.1 zDp q exc = false then ((mEP zDp s.1 q).1, s.2 + (mEP zDp s.1 q).2) else s
  | none => s
def mES (A : mS) (r exc : Nat) : mS × Nat := (List.range' 2 4).foldl (mESt r exc) (A, 0)
theorem m_es {w : Nat → Nat} {o r exc : Nat} {K : gH → Int32 → gR} (hr2 : r < 2) (hexc : exc < 6) : ∀ (k j n c : Nat) (G : gH) (A : mS) (D : mD), j + k = 6 → 2 ≤ j → k < n → gWf G → MRep w G o A D → mOk A.2.1 → (exc < 2 ∨ A.2.1 exc ≠ none) →
    ∃ (G' : gH) (D' : (Nat → Option Nat) × (Nat → Option Nat)), f_M_endParts_L5 K n G o (nI r) (nI exc) (nI c) (nI j) = K G' (nI ((List.range' j k).foldl (mESt r exc) (A, c)).2) ∧ MRep w G' o ((List.range' j k).foldl (mESt r exc) (A, c)).1 (dS D D') ∧ mSq 0 0 G G' ∧
      mSub ((List.range' j k).foldl (mESt r exc) (A, c)).1.2.1 A.2.1 ∧ mOk ((List.range' j k).foldl (mESt r exc) (A, c)).1.2.1 ∧ ∀ q, mAb A.2.1 zDp q exc = true → 2 ≤ q → ((List.range' j k).foldl (mESt r exc) (A, c)).1.2.1 q = A.2.1 q
  | _, _, 0, _, _, _, _, _, _, hn, _, _, _, _ => absurd hn (Nat.not_lt_zero _)
  | 0, j, n + 1, c, G, A, D, hj, _, _, hw, h, hok, _ => by
    refine ⟨G, D.2.2.2.2, ?_, h, mSq.refl, fun _ _ q => q, hok, fun _ _ _ => rfl⟩
    unfold f_M_endParts_L5
    rw [if_pos (nI_le (by omega) (by omega))]
    rfl
  | k + 1, j, n + 1, c, G, A, D, hj, hj2, hn, hw, h, hok, hex => by
    have hj6 : j < 6 := by omega
    unfold f_M_endParts_L5
    rw [if_neg (nI_ge hj6 (by omega)), gFA_of h.1 rfl rfl, List.range'_succ, List.foldl_cons, nI_add]
    cases hc : A.2.1 j with
    | none =>
      rw [gLdq_no h.2.2.2.1 rfl hj6 (by omega) (h.nopart hj6 hc)]
      have e : mESt r exc (A, c) j = (A, c) := by unfold mESt; rw [hc]
      rw [e]
      exact m_es hr2 hexc k (j + 1) n c G A D (by omega) (by omega) (by omega) hw h hok hex
    | some x =>
      obtain ⟨q, e1, -⟩ := h.part hj6 hc
      obtain ⟨r', b', hrw⟩ := hok.rw' (p := j) (Or.inr (by rw [hc]; exact Option.some_ne_none _))
      obtain ⟨r2, b2, hrx⟩ := hok.rw' hex
      have hr' := mRw_lt _ _ _ _ hrw
      have hRo : mRo A.2.1 j = r' := by unfold mRo; rw [hrw]
      rw [gLdq_of h.2.2.2.1 rfl hj6 (by omega) e1, gOb_of h.1 rfl, m_rowOf h _ _ _ _ hj6 hrw]
      show ∃ G' D', (if nI r' = nI r then _ else _) = _ ∧ _
      by_cases hrr : r' = r
      · rw [if_pos (by rw [hrr]), gOb_of h.1 rfl, m_isAbove h _ _ _ _ _ hj6 hexc hrx, mB_Z]
        cases hab : mAb A.2.1 zDp j exc with
        | true =>
          have e : mESt r exc (A, c) j = (A, c) := by unfold mESt; rw [hc]; exact if_neg (fun q => by have := q.2; simp only at this; rw [hab] at this; cases this)
          rw [e]
          show ∃ G' D', (if (1 : Int32) = 0 then _ else _) = _ ∧ _
          rw [if_neg (by decide)]
          exact m_es hr2 hexc k (j + 1) n c G A D (by omega) (by omega) (by omega) hw h hok hex
        | false =>
          have e : mESt r exc (A, c) j = ((mEP zDp A j).1, c + (mEP zDp A j).2) := by unfold mESt; rw [hc]; exact if_pos ⟨hRo.trans hrr, hab⟩
          obtain ⟨G1, D1, a1, a2, a3, a4⟩ := m_endPart zDp G A D j hw h hj2 hj6 (hok.deep hj2)
          have keep := mEP_keep (K := fun q => mAb A.2.1 zDp q exc = true) zDp A j (mAb.closed zDp exc r2 b2 hrx) (by rw [hab]; exact Bool.false_ne_true)
          have hex' : exc < 2 ∨ (mEP zDp A j).1.2.1 exc ≠ none := by
            rcases hex with q | q
            · exact Or.inl q
            · by_cases h2 : exc < 2
              · exact Or.inl h2
              · rw [keep exc (by unfold zDp mAb; rw [if_pos rfl]) (by omega)]; exact Or.inr q
          obtain ⟨G', D', z1, z2, z3, z4, z5, z6⟩ := m_es (K := K) hr2 hexc k (j + 1) n (c + (mEP zDp A j).2) G1 _ (dS D D1) (by omega) (by omega) (by omega) (a3.wf hw) a2 (hok.endP hj2) hex'
          refine ⟨G', D', ?_, by rw [e]; exact z2, a3.trans z3, by rw [e]; exact mSub.trans a4 z4, by rw [e]; exact z5, ?_⟩
          · show (if (0 : Int32) = 0 then _ else _) = _
            rw [if_pos rfl, gOb_of h.1 rfl, a1, e]
            show f_M_endParts_L5 K n G1 o (nI r) (nI exc) (nI c + nI (mEP zDp A j).2) (nI (j + 1)) = _
            rw [nI_add]
            exact z1
          · intro q hq hq2
            rw [e, z6 q (by rw [(mAb.congr zDp exc keep).1]; exact hq) hq2]
            exact keep q hq hq2
      · have e : mESt r exc (A, c) j = (A, c) := by unfold mESt; rw [hc]; exact if_neg (fun q => hrr (hRo.symm.trans q.1))
        rw [if_neg (fun q => hrr ((nI_eq (by omega) (by omega)).mp q)), e]
        exact m_es hr2 hexc k (j + 1) n c G A D (by omega) (by omega) (by omega) hw h hok hex
theorem m_endParts {w : Nat → Nat} {o r exc : Nat} {G : gH} {A : mS} {D : mD} (hw : gWf G) (h : MRep w G o A D) (hok : mOk A.2.1) (hr : r < 2) (hexc : exc < 6) (hex : exc < 2 ∨ A.2.1 exc ≠ none) :
    ∃ (G' : gH) (D' : (Nat → Option Nat) × (Nat → Option Nat)), f_M_endParts G o (nI r) (nI exc) = rI (nI (mES A r exc).2) G' ∧ MRep w G' o (mES A r exc).1 (dS D D') ∧ mSq 0 0 G G' ∧
      mSub (mES A r exc).1.2.1 A.2.1 ∧ mOk (mES A r exc).1.2.1 ∧ ∀ q, mAb A.2.1 zDp q exc = true → 2 ≤ q → (mES A r exc).1.2.1 q = A.2.1 q :=
  m_es (K := fun G22 x21 => rI x21 G22) hr hexc 4 2 zFu 0 G A D rfl (Nat.le_refl _) (by unfold zFu; omega) hw h hok hex

-- a part's, a cursor's fields are written
theorem MRep.setP {w : Nat → Nat} {G : gH} {o : Nat} {A : mS} {D : mD} (h : MRep w G o A D) {p q : Nat} {x y : Nat × Nat × Nat} (hp : p < 6) (hx : A.2.1 p = some x) (hq : D.2.2.2.2.1 p = some q) (b1 : y.1 < 6) (b2 : y.2.1 < 100) (b3 : y.2.2 < 100) :
    MRep w (gUp G q (.inr (5, [.int (nI y.1), .int (nI y.2.1), .int (nI y.2.2)]))) o (A.1, va_up A.2.1 p (some y), A.2.2.1, A.2.2.2) D := by
  obtain ⟨q', e1, e2, e3, e4, e5⟩ := h.part hp hx
  have hqq : q' = q := Option.some.inj (e1.symm.trans hq)
  subst hqq
  obtain ⟨k1, k2, k3, k4, k5, k6, k7, k8, k9, k10⟩ := h
  have hk : gSm (fun e => ∀ fs, e ≠ .inr (5, fs)) G (gUp G q' (.inr (5, [.int (nI y.1), .int (nI y.2.1), .int (nI y.2.2)]))) := gSm.up e5 (fun q => q _ rfl)
  have hel : gKeep G (gUp G q' (.inr (5, [.int (nI y.1), .int (nI y.2.1), .int (nI y.2.2)]))) := gKeep.up e5 (fun _ q => by cases q) (fun _ _ q => by cases q)
  have hN : mN3 (fun e => ∀ fs, e ≠ .inr (5, fs)) := ⟨fun fs f q => (by cases q), fun c n f hc f' q => (by cases q), fun g f q => (by cases q)⟩
  refine ⟨hk _ _ k1 (fun f q => by cases q), k2.tr hN hk hel, fun i hi => (k3 i hi).tr hN hk hel, hk _ _ k4 (fun f q => by cases q), hk _ _ k5 (fun f q => by cases q), fun i hi t ht => (k6 i hi t ht).tr hN hk,
    fun p' hp' => ?_, fun c hc => (k8 c hc).tr (fun fs f q => by cases q) hk, k9, k10⟩
  show mPt _ (va_up A.2.1 p (some y) p') (D.2.2.2.2.1 p')
  simp only [va_up]
  by_cases e : p' = p
  · subst e
    rw [if_pos rfl, e1]
    exact ⟨b1, b2, b3, gUp_at⟩
  · rw [if_neg e]
    have k := k7 p' hp'
    cases hx' : A.2.1 p' with
    | none =>
      cases hq' : D.2.2.2.2.1 p' with
      | none => exact True.intro
      | some z => rw [hx', hq'] at k; exact k.elim
    | some x' =>
      cases hq' : D.2.2.2.2.1 p' with
      | none => rw [hx', hq'] at k; exact k.elim
      | some z =>
        rw [hx', hq'] at k
        obtain ⟨i1, i2, i3⟩ := x'
        exact ⟨k.1, k.2.1, k.2.2.1, by rw [gUp_ne (by rintro rfl; exact e (k9.2.2.2.1 _ _ _ hp' hp hq' e1))]; exact k.2.2.2⟩
theorem MRep.setC {w : Nat → Nat} {G : gH} {o : Nat} {A : mS} {D : mD} (h : MRep w G o A D) {c q : Nat} {x y : Nat × Nat × Int32 × Int32} (hc : c < 3) (hx : A.2.2.1 c = some x) (hq : D.2.2.2.2.2 c = some q) (b1 : y.1 < 6) (b2 : y.2.1 < 100) :
    MRep w (gUp G q (.inr (4, [.int (nI y.1), .int (nI y.2.1), .int y.2.2.1, .int y.2.2.2]))) o (A.1, A.2.1, va_up A.2.2.1 c (some y), A.2.2.2) D := by
  obtain ⟨q', e1, e2, e3, e5⟩ := h.cur hc hx
  have hqq : q' = q := Option.some.inj (e1.symm.trans hq)
  subst hqq
  obtain ⟨k1, k2, k3, k4, k5, k6, k7, k8, k9, k10⟩ := h
  have hk : gSm (fun e => ∀ fs, e ≠ .inr (4, fs)) G (gUp G q' (.inr (4, [.int (nI y.1), .int (nI y.2.1), .int y.2.2.1, .int y.2.2.2]))) := gSm.up e5 (fun q => q _ rfl)
  have hel : gKeep G (gUp G q' (.inr (4, [.int (nI y.1), .int (nI y.2.1), .int y.2.2.1, .int y.2.2.2]))) := gKeep.up e5 (fun _ q => by cases q) (fun _ _ q => by cases q)
  have hN : mN3 (fun e => ∀ fs, e ≠ .inr (4, fs)) := ⟨fun fs f q => (by cases q), fun c n f hc f' q => (by cases q), fun g f q => (by cases q)⟩
  refine ⟨hk _ _ k1 (fun f q => by cases q), k2.tr hN hk hel, fun i hi => (k3 i hi).tr hN hk hel, hk _ _ k4 (fun f q => by cases q), hk _ _ k5 (fun f q => by cases q), fun i hi t ht => (k6 i hi t ht).tr hN hk,
    fun p hp => (k7 p hp).tr (fun fs f q => by cases q) hk, fun c' hc' => ?_, k9, k10⟩
  show mCu _ (va_up A.2.2.1 c (some y) c') (D.2.2.2.2.2 c')
  simp only [va_up]
  by_cases e : c' = c
  · subst e
    rw [if_pos rfl, e1]
    exact ⟨b1, b2, gUp_at⟩
  · rw [if_neg e]
    have k := k8 c' hc'
    cases hx' : A.2.2.1 c' with
    | none =>
      cases hq' : D.2.2.2.2.2 c' with
      | none => exact True.intro
      | some z => rw [hx', hq'] at k; exact k.elim
    | some x' =>
      cases hq' : D.2.2.2.2.2 c' with
      | none => rw [hx', hq'] at k; exact k.elim
      | some z =>
        rw [hx', hq'] at k
        obtain ⟨i1, i2, i3, i4⟩ := x'
        exact ⟨k.1, k.2.1, by rw [gUp_ne (by rintro rfl; exact e (k9.2.2.2.2 _ _ _ hc' hc hq' e1))]; exact k.2.2⟩

-- a change of a list's length: first the lengths on its way
theorem ofInt_nI (n : Nat) : Int32.ofInt (n : Int) = nI n := by
  first
  | exact Int32.ofInt_natCast
  | exact Int32.ofInt_eq_ofNat
  | exact (Int32.ofNat_eq_ofInt ..).symm
  | (show Int32.mk (UInt32.mk (BitVec.ofInt 32 (n : Int))) = Int32.mk (UInt32.mk (BitVec.ofNat 32 n)); rw [BitVec.ofInt_natCast])
theorem nI_int {l : Nat} {z : Int} (h : 0 ≤ (l : Int) + z) : nI l + Int32.ofInt z = nI ((l : Int) + z).toNat := by
  rw [← ofInt_nI, ← ofInt_nI, ← Int32.ofInt_add, Int.toNat_of_nonneg h]
theorem mRw_va {P : Nat → Option (Nat × Nat × Nat)} {p : Nat} {x : Nat × Nat × Nat} {l : Nat} (hx : P p = some x) : ∀ (d q : Nat), mRw (va_up P p (some (x.1, x.2.1, l))) d q = mRw P d q
  | 0, _ => rfl
  | d + 1, q => by
    unfold mRw
    by_cases hq : q < 2
    · rw [if_pos hq, if_pos hq]
    · rw [if_neg hq, if_neg hq]
      simp only [va_up]
      by_cases e : q = p
      · subst e
        rw [if_pos rfl, hx]
        obtain ⟨o', f, l'⟩ := x
        show Option.map _ (mRw _ d o') = Option.map _ (mRw P d o')
        have := mRw_va (P := P) (l := l) hx d o'
        rw [← this]
      · rw [if_neg e]
        cases P q with
        | none => rfl
        | some y =>
          obtain ⟨o', f, l'⟩ := y
          show Option.map _ (mRw _ d o') = Option.map _ (mRw P d o')
          have := mRw_va (P := P) (l := l) hx d o'
          rw [← this]
theorem mOk.va {P : Nat → Option (Nat × Nat × Nat)} (h : mOk P) {p : Nat} {x : Nat × Nat × Nat} {l : Nat} (hx : P p = some x) : mOk (va_up P p (some (x.1, x.2.1, l))) := by
  obtain ⟨h0, ρ, h1, h2⟩ := h
  have hn : ∀ q, P q ≠ none → va_up P p (some (x.1, x.2.1, l)) q ≠ none := by
    intro q hq
    simp only [va_up]
    by_cases e : q = p
    · rw [if_pos e]; exact Option.some_ne_none _
    · rw [if_neg e]; exact hq
  refine ⟨fun q y hq => ?_, ρ, h1, fun q y hq => ?_⟩
  · simp only [va_up] at hq
    by_cases e : q = p
    · subst e; exact h0 q x hx
    · rw [if_neg e] at hq; exact h0 q y hq
  · have hq' := hq
    simp only [va_up] at hq
    by_cases e : q = p
    · subst e
      rw [if_pos rfl] at hq
      rw [← Option.some.inj hq]
      exact (h2 q x hx).imp_right (fun k => ⟨hn _ k.1, k.2⟩)
    · rw [if_neg e] at hq
      exact (h2 q y hq).imp_right (fun k => ⟨hn _ k.1, k.2⟩)
/-- every length on the way changes by z -/
def mChL (z : Int) : Nat → mS → Nat → mS
  | 0, A, _ => A
  | d + 1, A, p => if p < 2 then A else match A.2.1 p with
    | none => A
    | some x => mChL z d (A.1, va_up A.2.1 p (some (x.1, x.2.1, ((x.2.2 : Int) + z).toNat)), A.2.2.1, A.2.2.2) x.1
def mChOk (z : Int) : Nat → mS → Nat → Prop
  | 0, _, _ => True
  | d + 1, A, p => p < 2 ∨ match A.2.1 p with
    | none => True
    | some x => (0 ≤ (x.2.2 : Int) + z ∧ (x.2.2 : Int) + z < 100) ∧ mChOk z d (A.1, va_up A.2.1 p (some (x.1, x.2.1, ((x.2.2 : Int) + z).toNat)), A.2.2.1, A.2.2.2) x.1
theorem m_ch8 {w : Nat → Nat} {o : Nat} {x1 x3 : Int32} {z : Int} {K : gH → Nat → Int32 → Int32 → gR} : ∀ (d n p r b : Nat) (G : gH) (A : mS) (D : mD), d ≤ n → p < 6 → gWf G → MRep w G o A D → mOk A.2.1 → mRw A.2.1 d p = some (r, b) → mChOk z d A p →
    ∃ G', f_M_change_L8 K n G o x1 (Int32.ofInt z) x3 (nI p) = K G' o x1 x3 ∧ MRep w G' o (mChL z d A p) D ∧ mSq 0 0 G G' ∧ mOk (mChL z d A p).2.1 ∧ (∀ d' q, mRw (mChL z d A p).2.1 d' q = mRw A.2.1 d' q) ∧ ∀ q, A.2.1 q = none ↔ (mChL z d A p).2.1 q = none
  | 0, _, _, _, _, _, _, _, _, _, _, _, _, k, _ => by cases k
  | d + 1, 0, _, _, _, _, _, _, hn, _, _, _, _, _, _ => absurd hn (by omega)
  | d + 1, n + 1, p, r, b, G, A, D, hn, hp, hw, h, hok, k, hz => by
    unfold mRw at k
    unfold f_M_change_L8 mChL
    unfold mChOk at hz
    by_cases h2 : p < 2
    · refine ⟨G, ?_, ?_, mSq.refl, ?_, ?_, ?_⟩
      · rw [if_pos (nI_lt h2 (by omega))]
      · rw [if_pos h2]; exact h
      · rw [if_pos h2]; exact hok
      · rw [if_pos h2]; exact fun _ _ => rfl
      · rw [if_pos h2]; exact fun _ => Iff.rfl
    · rw [if_neg h2] at k
      rw [if_neg (nI_nlt (by omega) (by omega)), if_neg h2, gFA_of h.1 rfl rfl]
      cases hq : A.2.1 p with
      | none => rw [hq] at k; cases k
      | some x =>
        rw [hq] at k
        obtain ⟨q, e1, e2, e3, e4, e5⟩ := h.part hp hq
        rw [hq] at hz
        have hz' := hz.resolve_left h2
        simp only at hz'
        have hr1 : ∃ b', mRw A.2.1 d x.1 = some (r, b') := by
          obtain ⟨o', f, l⟩ := x
          simp only at k
          cases hr : mRw A.2.1 d o' with
          | none => rw [hr] at k; cases k
          | some y =>
            obtain ⟨r', b'⟩ := y
            rw [hr] at k; cases k
            exact ⟨b', rfl⟩
        obtain ⟨b', hr1⟩ := hr1
        have hl : (((x.2.2 : Int) + z).toNat) < 100 := by omega
        have h1 : MRep w (gUp G q (.inr (5, [.int (nI x.1), .int (nI x.2.1), .int (nI ((x.2.2 : Int) + z).toNat)]))) o (A.1, va_up A.2.1 p (some (x.1, x.2.1, ((x.2.2 : Int) + z).toNat)), A.2.2.1, A.2.2.2) D := h.setP (y := (x.1, x.2.1, ((x.2.2 : Int) + z).toNat)) hp hq e1 e2 e3 hl
        have s1 : mSq 0 0 G (gUp G q (.inr (5, [.int (nI x.1), .int (nI x.2.1), .int (nI ((x.2.2 : Int) + z).toNat)]))) := mSq.up hw e5 (Or.inl ⟨5, _, rfl, by omega⟩) (fun _ q => by cases q)
        have hc5 : (gUp G q (.inr (5, [.int (nI x.1), .int (nI x.2.1), .int (nI ((x.2.2 : Int) + z).toNat)]))).2.2 q = some (.inr (5, [.int (nI x.1), .int (nI x.2.1), .int (nI ((x.2.2 : Int) + z).toNat)])) := gUp_at
        have hset : gUp G q (.inr (5, ([.int (nI x.1), .int (nI x.2.1), .int (nI x.2.2)] : List Value).set 2 (.int (nI ((x.2.2 : Int) + z).toNat)))) = gUp G q (.inr (5, [.int (nI x.1), .int (nI x.2.1), .int (nI ((x.2.2 : Int) + z).toNat)])) := rfl
        generalize gUp G q (.inr (5, [.int (nI x.1), .int (nI x.2.1), .int (nI ((x.2.2 : Int) + z).toNat)])) = G1 at h1 s1 hc5 hset
        obtain ⟨G', z1, z2, z3, z4, z5, z6⟩ := m_ch8 (x1 := x1) (x3 := x3) (z := z) (K := K) d n x.1 r b' _ _ D (by omega) e2 (s1.wf hw) h1 (hok.va hq) (by rw [← hr1]; exact mRw_va hq d x.1) hz'.2
        refine ⟨G', ?_, z2, s1.trans z3, z4, fun d' q' => (z5 d' q').trans (mRw_va hq d' q'), fun q' => ?_⟩
        · rw [gLdq_of h.2.2.2.1 rfl hp (by omega) e1, gFI_of e5 rfl rfl, nI_int hz'.1.1, gPut_of (ci := 5) e5 (by simp), hset, gFA_of h1.1 rfl rfl, gLdq_of h1.2.2.2.1 rfl hp (by omega) e1, gFI_of hc5 rfl rfl]
          exact z1
        · rw [← z6 q']
          show _ ↔ va_up A.2.1 p _ q' = none
          simp only [va_up]
          by_cases e : q' = p
          · subst e
            rw [if_pos rfl, hq]
            exact ⟨fun q => absurd q (Option.some_ne_none _), fun q => absurd q (Option.some_ne_none _)⟩
          · rw [if_neg e]

-- then the cursors on its row: those on rows grow stale, those on parts come to their end
def mCC (r : Nat) (exc : Int32) (A : mS) (c : Nat) : mS := if nI c = exc then A else match A.2.2.1 c with
  | some x => if mRo A.2.1 x.1 = r then (if x.1 < 2 then (A.1, A.2.1, va_up A.2.2.1 c (some (x.1, x.2.1, x.2.2.1, nI 1)), A.2.2.2) else mEndC A c) else A
  | none => A
def mCV (A : mS) : Prop := ∀ c x, A.2.2.1 c = some x → x.1 < 2 ∨ A.2.1 x.1 ≠ none
theorem mCC_P {r : Nat} {exc : Int32} {A : mS} {c : Nat} : (mCC r exc A c).2.1 = A.2.1 := by
  unfold mCC
  by_cases h : nI c = exc
  · rw [if_pos h]
  · rw [if_neg h]
    cases A.2.2.1 c with
    | none => rfl
    | some x =>
      show (if mRo A.2.1 x.1 = r then _ else A).2.1 = _
      split
      · split <;> rfl
      · rfl
theorem mCC_Ps {r : Nat} {exc : Int32} : ∀ (l : List Nat) (A : mS), (l.foldl (mCC r exc) A).2.1 = A.2.1
  | [], _ => rfl
  | c :: l, A => by rw [List.foldl_cons, mCC_Ps l, mCC_P]
theorem m_ch55 {w : Nat → Nat} {o r : Nat} {x1 exc : Int32} {K : gH → Nat → Int32 → Int32 → gR} (hr : r < 2) : ∀ (k j n : Nat) (G : gH) (A : mS) (D : mD), j + k = 3 → k < n → gWf G → MRep w G o A D → mOk A.2.1 → (∀ c x, j ≤ c → A.2.2.1 c = some x → x.1 < 2 ∨ A.2.1 x.1 ≠ none) →
    ∃ (G' : gH) (D' : (Nat → Option Nat) × (Nat → Option Nat)), f_M_change_L55 K n G o x1 exc (nI r) (nI j) = K G' o x1 (nI r) ∧ MRep w G' o ((List.range' j k).foldl (mCC r exc) A) (dS D D') ∧ mSq 0 0 G G'
  | _, _, 0, _, _, _, _, hn, _, _, _, _ => absurd hn (Nat.not_lt_zero _)
  | 0, j, n + 1, G, A, D, hj, _, hw, h, _, _ => by
    refine ⟨G, D.2.2.2.2, ?_, h, mSq.refl⟩
    unfold f_M_change_L55
    rw [if_pos (nI_le (by omega) (by omega))]
  | k + 1, j, n + 1, G, A, D, hj, hn, hw, h, hok, hcv => by
    have hj3 : j < 3 := by omega
    have hcv' : ∀ c x, j + 1 ≤ c → A.2.2.1 c = some x → x.1 < 2 ∨ A.2.1 x.1 ≠ none := fun c x hc => hcv c x (by omega)
    unfold f_M_change_L55
    rw [if_neg (nI_ge hj3 (by omega)), List.range'_succ, List.foldl_cons, nI_add]
    by_cases hje : nI j = exc
    · have e : mCC r exc A j = A := by unfold mCC; rw [if_pos hje]
      rw [if_pos hje, e]
      exact m_ch55 hr k (j + 1) n G A D (by omega) (by omega) hw h hok hcv'
    · rw [if_neg hje, gFA_of h.1 rfl rfl]
      cases hc : A.2.2.1 j with
      | none =>
        rw [gLdq_no h.2.2.2.2.1 rfl hj3 (by omega) (h.nocur hj3 hc)]
        have e : mCC r exc A j = A := by unfold mCC; rw [if_neg hje, hc]
        rw [e]
        exact m_ch55 hr k (j + 1) n G A D (by omega) (by omega) hw h hok hcv'
      | some x =>
        obtain ⟨q, e1, e2, e3, e4⟩ := h.cur hj3 hc
        obtain ⟨r', b', hrw⟩ := hok.rw' (hcv j x (Nat.le_refl _) hc)
        have hr' := mRw_lt _ _ _ _ hrw
        have hRo : mRo A.2.1 x.1 = r' := by unfold mRo; rw [hrw]
        rw [gLdq_of h.2.2.2.2.1 rfl hj3 (by omega) e1, gFA_of h.1 rfl rfl, gLdq_of h.2.2.2.2.1 rfl hj3 (by omega) e1, gFI_of e4 rfl rfl, gOb_of h.1 rfl, m_rowOf h _ _ _ _ e2 hrw]
        show ∃ G' D', (if nI r' = nI r then _ else _) = _ ∧ _
        by_cases hrr : r' = r
        · rw [if_pos (by rw [hrr]), gFA_of h.1 rfl rfl, gLdq_of h.2.2.2.2.1 rfl hj3 (by omega) e1, gFI_of e4 rfl rfl]
          by_cases h2 : x.1 < 2
          · have e : mCC r exc A j = (A.1, A.2.1, va_up A.2.2.1 j (some (x.1, x.2.1, x.2.2.1, nI 1)), A.2.2.2) := by unfold mCC; rw [if_neg hje, hc]; show (if mRo A.2.1 x.1 = r then _ else A) = _; rw [if_pos (hRo.trans hrr), if_pos h2]
            have h1 : MRep w (gUp G q (.inr (4, [.int (nI x.1), .int (nI x.2.1), .int x.2.2.1, .int (nI 1)]))) o (A.1, A.2.1, va_up A.2.2.1 j (some (x.1, x.2.1, x.2.2.1, nI 1)), A.2.2.2) D := h.setC (y := (x.1, x.2.1, x.2.2.1, nI 1)) hj3 hc e1 e2 e3
            have s1 : mSq 0 0 G (gUp G q (.inr (4, [.int (nI x.1), .int (nI x.2.1), .int x.2.2.1, .int (nI 1)]))) := mSq.up hw e4 (Or.inl ⟨4, _, rfl, by omega⟩) (fun _ q => by cases q)
            obtain ⟨G', D', z1, z2, z3⟩ := m_ch55 (x1 := x1) (exc := exc) (K := K) hr k (j + 1) n _ _ D (by omega) (by omega) (s1.wf hw) h1 hok (fun c y hc' hy => by
              simp only [va_up] at hy
              rw [if_neg (by omega)] at hy
              exact hcv' c y hc' hy)
            refine ⟨G', D', ?_, by rw [e]; exact z2, s1.trans z3⟩
            rw [if_pos (nI_lt h2 (by omega)), gFA_of h.1 rfl rfl, gLdq_of h.2.2.2.2.1 rfl hj3 (by omega) e1, gPut_of (ci := 4) e4 (by simp)]
            exact z1
          · have e : mCC r exc A j = mEndC A j := by unfold mCC; rw [if_neg hje, hc]; show (if mRo A.2.1 x.1 = r then _ else A) = _; rw [if_pos (hRo.trans hrr), if_neg h2]
            obtain ⟨G1, r1, r2, r3⟩ := m_endCursor hw h hj3
            obtain ⟨G', D', z1, z2, z3⟩ := m_ch55 (x1 := x1) (exc := exc) (K := K) hr k (j + 1) n G1 _ _ (by omega) (by omega) (r3.wf hw) r2 hok (fun c y hc' hy => by
              have hy' : va_up A.2.2.1 j none c = some y := hy
              simp only [va_up] at hy'
              rw [if_neg (by omega)] at hy'
              exact hcv' c y hc' hy')
            refine ⟨G', D', ?_, by rw [e]; exact z2, r3.trans z3⟩
            rw [if_neg (nI_nlt (by omega) (by omega)), gOb_of h.1 rfl, r1]
            exact z1
        · have e : mCC r exc A j = A := by unfold mCC; rw [if_neg hje, hc]; show (if mRo A.2.1 x.1 = r then _ else A) = _; rw [if_neg (fun q => hrr (hRo.symm.trans q))]
          rw [if_neg (fun q => hrr ((nI_eq (by omega) (by omega)).mp q)), e]
          exact m_ch55 hr k (j + 1) n G A D (by omega) (by omega) hw h hok hcv'
def mChange (A : mS) (p : Nat) (z : Int) (exc : Int32) : mS := if z = 0 then A else
  (mES ((List.range' 0 3).foldl (mCC (mRo A.2.1 p) exc) (mChL z zDp A p)) (mRo A.2.1 p) p).1
theorem mChL_C {z : Int} : ∀ (d : Nat) (A : mS) (p : Nat), (mChL z d A p).2.2 = A.2.2 ∧ (mChL z d A p).1 = A.1
  | 0, _, _ => ⟨rfl, rfl⟩
  | d + 1, A, p => by
    unfold mChL
    by_cases h2 : p < 2
    · rw [if_pos h2]; exact ⟨rfl, rfl⟩
    · rw [if_neg h2]
      cases A.2.1 p with
      | none => exact ⟨rfl, rfl⟩
      | some x => exact mChL_C d _ x.1
theorem m_change {w : Nat → Nat} {G : gH} {o p : Nat} {A : mS} {D : mD} {z : Int} {exc : Int32} (hw : gWf G) (h : MRep w G o A D) (hok : mOk A.2.1) (hcv : mCV A) (hp : p < 6) (hpv : p < 2 ∨ A.2.1 p ≠ none) (hz : -100 < z ∧ z < 100) (hch : mChOk z zDp A p) :
    ∃ (G' : gH) (D' : (Nat → Option Nat) × (Nat → Option Nat)), f_M_change G o (nI p) (Int32.ofInt z) exc = rV G' ∧ MRep w G' o (mChange A p z exc) (dS D D') ∧ mSq 0 0 G G' ∧ mOk (mChange A p z exc).2.1 := by
  unfold f_M_change mChange
  by_cases hz0 : z = 0
  · subst hz0
    rw [if_pos (show Int32.ofInt 0 = 0 by decide), if_pos rfl]
    exact ⟨G, D.2.2.2.2, rfl, h, mSq.refl, hok⟩
  · have hne : Int32.ofInt z ≠ 0 := by
      intro q
      have q' := congrArg Int32.toInt q
      rw [Int32.toInt_ofInt_of_le (by omega) (by omega)] at q'
      exact hz0 q'
    rw [if_neg hne, if_neg hz0]
    obtain ⟨r, b, hrw⟩ := hok.rw' hpv
    have hr := mRw_lt _ _ _ _ hrw
    have hRo : mRo A.2.1 p = r := by unfold mRo; rw [hrw]
    rw [hRo]
    obtain ⟨G1, a1, a2, a3, a4, a5, a6⟩ := m_ch8 (x1 := nI p) (x3 := exc) (z := z) (K := fun G12 x9 x10 x11 => gOb G12 x9 6 fun o14 => bI (f_M_rowOf zDp G12 x9 x10) fun v17 G16 => f_M_change_L55 (fun G45 x42 x43 x44 => gOb G45 x42 6 fun o47 => bI (f_M_endParts G45 x42 x44 x43) fun v50 G49 => rV G49) zFu G16 x9 x10 x11 v17 (nI 0))
      zDp zFu p r b G A D (by unfold zDp zFu; omega) hp hw h hok hrw hch
    have hrw1 : mRw (mChL z zDp A p).2.1 zDp p = some (r, b) := (a5 zDp p).trans hrw
    obtain ⟨G2, D2, b1, b2, b3⟩ := m_ch55 (x1 := nI p) (exc := exc) (K := fun G45 x42 x43 x44 => gOb G45 x42 6 fun o47 => bI (f_M_endParts G45 x42 x44 x43) fun v50 G49 => rV G49) hr 3 0 zFu G1 _ D rfl (by unfold zFu; omega) (a3.wf hw) a2 a4 (fun c x _ hx => by
      rw [(mChL_C zDp A p).1] at hx
      exact (hcv c x hx).imp_right (fun k q => k ((a6 _).mpr q)))
    have s12 := a3.trans b3
    obtain ⟨G3, D3, c1, c2, c3, -, c5, -⟩ := m_endParts (r := r) (exc := p) (s12.wf hw) b2 (by rw [mCC_Ps]; exact a4) hr hp (hpv.imp_right (fun k => by rw [mCC_Ps]; exact fun q => k ((a6 _).mpr q)))
    refine ⟨G3, D3, ?_, c2, s12.trans c3, c5⟩
    rw [a1, gOb_of a2.1 rfl, m_rowOf a2 _ _ _ _ hp hrw1]
    show f_M_change_L55 _ zFu G1 o (nI p) exc (nI r) (nI 0) = _
    rw [b1, gOb_of b2.1 rfl, c1]
    rfl

-- a thing is made
theorem gSm.new {G G' : gH} (hw : gWf G) (h : ∀ q, q < G.2.1 → G'.2.2 q = G.2.2 q) : gSm (fun _ => True) G G' := fun q z hq _ => by rw [h q (hw q z hq)]; exact hq
theorem gKeep.new {G G' : gH} (hw : gWf G) (h : ∀ q, q < G.2.1 → G'.2.2 q = G.2.2 q) : gKeep G G' := by
  rintro y (⟨fs, hy⟩ | ⟨m, g, hy⟩)
  · exact Or.inl ⟨fs, by rw [h y (hw _ _ hy)]; exact hy⟩
  · exact Or.inr ⟨m, g, by rw [h y (hw _ _ hy)]; exact hy⟩
theorem mN_all : mN (fun _ => True) := ⟨⟨fun _ => True.intro, fun _ _ _ _ => True.intro, fun _ => True.intro⟩, ⟨fun _ _ => True.intro, fun _ _ => True.intro⟩, fun _ => True.intro, fun _ => True.intro⟩
theorem MRep.new {w : Nat → Nat} {G G' : gH} {o : Nat} {A : mS} {D : mD} (hw : gWf G) (h : MRep w G o A D) (hs : ∀ q, q < G.2.1 → G'.2.2 q = G.2.2 q) : MRep w G' o A D :=
  h.tr mN_all (gSm.new hw hs) (gKeep.new hw hs) (by rw [hs o (hw _ _ h.1)]; exact h.1) rfl rfl rfl
theorem gNewA_of {G : gH} {ka n : Nat} {k : Nat → gH → gR} (hn : n ≤ 60000000) : gNewA G ka (nI n) k = k G.2.1 (gNew G n (zI ka n (fun _ => 0))) := by
  unfold gNewA
  rw [nI_clamp (by omega), if_pos ⟨nI_pos (by omega), hn⟩]
theorem gStI_of {G : gH} {a n i : Nat} {v : Int32} {f : Nat → Int32} {k : gH → gR} (h : G.2.2 a = some (zI 100 n f)) (hi : i < n) (hn : n < 2 ^ 31) : gSt G a 100 (nI i) v k = k (gUp G a (zI 100 n (upd f i v))) := by
  unfold gSt gArW; rw [h]; simp [zI, gIn_nI hi hn, nI_clamp (Nat.lt_trans hi hn)]
theorem m_make {w : Nat → Nat} {G : gH} {o : Nat} {A : mS} {D : mD} (hw : gWf G) (h : MRep w G o A D) (key m : Nat) (hm : A.2.2.2 1 = nI m) :
    ∃ G', f_M_make G o (nI key) = rA G.2.1 G' ∧ MRep w G' o (mSet A 1 (A.2.2.2 1 + nI 1)) D ∧ mSq 1 2 G G' ∧ mTh G' G.2.1 (key, m) ∧ G'.2.1 = G.2.1 + 1 := by
  have h1 := h.setI 1 (A.2.2.2 1 + nI 1)
  have s1 : mSq 0 0 G (gUp G o (.inr (6, mOb (mSet A 1 (A.2.2.2 1 + nI 1)) D))) := mSq.up hw h.1 (Or.inl ⟨6, _, rfl, by omega⟩) (fun _ q => by cases q)
  unfold f_M_make
  rw [m_int h (j := 1) (i := 4) (by omega) rfl, m_put h (j := 1) (i := 4) (by omega) rfl]
  have hw1 := s1.wf hw
  have hsz : (gUp G o (.inr (6, mOb (mSet A 1 (A.2.2.2 1 + nI 1)) D))).2.1 = G.2.1 := rfl
  generalize gUp G o (.inr (6, mOb (mSet A 1 (A.2.2.2 1 + nI 1)) D)) = G1 at h1 s1 hw1 hsz
  rw [gNewA_of (by omega), hsz]
  have n1 : (gNew G1 2 (zI 100 2 (fun _ => 0))).2.2 G.2.1 = some (zI 100 2 (fun _ => 0)) := by rw [← hsz]; exact gNew_at
  rw [gStI_of n1 (by omega) (by omega)]
  have hsame : ∀ f q, q < G1.2.1 → (gUp (gUp (gNew G1 2 (zI 100 2 (fun _ => 0))) G.2.1 (zI 100 2 (upd (fun _ => 0) 0 (nI key)))) G.2.1 (zI 100 2 f)).2.2 q = G1.2.2 q := by
    intro f q hq
    rw [gUp_ne (by omega), gUp_ne (by omega), gNew_ne (by omega)]
  have hsame1 : ∀ q, q < G1.2.1 → (gUp (gNew G1 2 (zI 100 2 (fun _ => 0))) G.2.1 (zI 100 2 (upd (fun _ => 0) 0 (nI key)))).2.2 q = G1.2.2 q := by
    intro q hq
    rw [gUp_ne (by omega), gNew_ne (by omega)]
  have h2 := h1.new (G' := gUp (gNew G1 2 (zI 100 2 (fun _ => 0))) G.2.1 (zI 100 2 (upd (fun _ => 0) 0 (nI key)))) hw1 hsame1
  rw [m_int h2 (j := 1) (i := 4) (by omega) rfl, gStI_of gUp_at (by omega) (by omega)]
  refine ⟨_, rfl, h1.new hw1 (hsame _), (s1.trans (k' := 1) (n' := 2) ⟨⟨?_, ?_, ?_, ?_, ?_, fun q hq _ => hsame _ q hq⟩, gKeep.new hw1 (hsame _)⟩).mono (by omega) (by omega), ⟨_, gUp_at, ?_, ?_⟩, ?_⟩
  · exact Nat.le_succ _
  · exact Nat.le_refl _
  · exact Nat.le_add_right _ _
  · exact Nat.le_refl _
  · intro _
    refine ((gWf.new hw1).up ?_).up ?_
    · show G.2.1 < G1.2.1 + 1; omega
    · show G.2.1 < G1.2.1 + 1; omega
  · show upd (upd (fun _ => 0) 0 (nI key)) 1 _ 0 = nI key
    simp [upd]
  · show upd (upd (fun _ => 0) 0 (nI key)) 1 _ 1 = nI m
    simp only [upd, if_true]
    show A.2.2.2 1 + nI 1 - nI 1 = nI m
    rw [← hm]; exact Int32.add_sub_cancel _ _
  · show G1.2.1 + 1 = _; omega

-- .. and its rows
def mKd (e : zE) : Prop := (∃ c fs, e = .inr (c, fs) ∧ (c = 4 ∨ c = 5 ∨ c = 6 ∨ c = 9)) ∨ ∃ c n f, e = zQ c n f ∧ c < 1000
def mOwn (G : gH) (q : Nat) : Prop := ∃ e, G.2.2 q = some e ∧ mKd e
def mSt (k n : Nat) (G G' : gH) : Prop := gFr (mOwn G) k n G G' ∧ gKeep G G'
theorem mSt.refl {G : gH} : mSt 0 0 G G := ⟨gFr.refl, gKeep.refl⟩
theorem mSt.trans {k n k' n' : Nat} {G G1 G2 : gH} (h1 : mSt k n G G1) (h2 : mSt k' n' G1 G2) : mSt (k + k') (n + n') G G2 := by
  refine ⟨?_, h1.2.trans h2.2⟩
  obtain ⟨a1, a2, a3, a4, a5, a6⟩ := h1.1
  obtain ⟨b1, b2, b3, b4, b5, b6⟩ := h2.1
  refine ⟨by omega, by omega, by omega, by omega, fun h => b5 (a5 h), fun q hq hp => ?_⟩
  have e := a6 q hq hp
  rw [b6 q (by omega) (fun ⟨z, hz, hk⟩ => hp ⟨z, by rw [← e]; exact hz, hk⟩), e]
theorem mSt.mono {k n k' n' : Nat} {G G' : gH} (h : mSt k n G G') (hk : k ≤ k') (hn : n ≤ n') : mSt k' n' G G' := ⟨h.1.mono (fun _ _ p => p) hk hn, h.2⟩
theorem mSt.up {G : gH} {q : Nat} {e0 e' : zE} (hw : gWf G) (h0 : G.2.2 q = some e0) (hm : mKd e0) (h9 : ∀ fs, e0 ≠ .inr (9, fs)) : mSt 0 0 G (gUp G q e') :=
  ⟨(gFr.up (hw _ _ h0)).mono (fun _ _ p => by subst p; exact ⟨e0, h0, hm⟩) (Nat.le_refl _) (Nat.le_refl _),
   gKeep.up h0 h9 (by
    intro m g q
    subst q
    rcases hm with ⟨c, fs, q, -⟩ | ⟨c, n, f, q, -⟩ <;> cases q)⟩
theorem mSt.wf {k n : Nat} {G G' : gH} (h : mSt k n G G') (hw : gWf G) : gWf G' := h.1.2.2.2.2.1 hw
theorem mSq.st {k n : Nat} {G G' : gH} (h : mSq k n G G') : mSt k n G G' := by
  refine ⟨h.1.mono (fun q _ hq => ?_) (Nat.le_refl _) (Nat.le_refl _), h.2⟩
  obtain ⟨e, he, hk⟩ := hq
  refine ⟨e, he, ?_⟩
  rcases hk with ⟨c, fs, e1, e2⟩ | ⟨c, n, f, e1, e2⟩
  · exact Or.inl ⟨c, fs, e1, by omega⟩
  · exact Or.inr ⟨c, n, f, e1, by omega⟩
-- a thing comes into a row
theorem isAL.cell {w : Nat → Nat} {G G' : gH} {a e : Nat} {xs : List Nat} (h : isAL w G a e xs) (ha : G'.2.2 a = G.2.2 a) (he : G'.2.2 e = G.2.2 e) (hel : gKeep G G') : isAL w G' a e xs := by
  obtain ⟨m, κ, cap, f, h1, h2, h3, h4, h5, h6, h7⟩ := h
  exact ⟨m, κ, cap, f, by rw [ha]; exact h1, by rw [he]; exact h2, h3, h4, h5, h6, fun i hi y hy => hel y (h7 i hi y hy)⟩
theorem isAL.ne {w : Nat → Nat} {G : gH} {a e a' e' : Nat} {xs xs' : List Nat} (h : isAL w G a e xs) (h' : isAL w G a' e' xs') : a ≠ e' := by
  obtain ⟨m, κ, cap, f, h1, -⟩ := h
  obtain ⟨m', κ', cap', f', -, h2, -⟩ := h'
  rintro rfl
  rw [h1] at h2
  cases h2
def mRows (A : mS) (r : Nat) (ts : List (Nat × Nat × Nat)) : mS := (fun i => if i = r then ts else A.1 i, A.2)
def dRow (D : mD) (r e : Nat) : mD := (D.1, D.2.1, fun i => if i = r then e else D.2.2.1 i, D.2.2.2)
/-- only the list r of the model and its array have changed -/
theorem MRep.row {w : Nat → Nat} {G G' : gH} {o : Nat} {A : mS} {D : mD} (hw : gWf G) (h : MRep w G o A D) (hw0 : mW0 w G) {r e' : Nat} (hr : r < 2) {ts : List (Nat × Nat × Nat)}
    (hn : isAL w G' (D.2.1 r) e' (ts.map fun t => t.1)) (he' : (e' = D.2.2.1 r ∧ ∃ cap f, G.2.2 (D.2.2.1 r) = some (zQ 103 cap f)) ∨ e' = G.2.1)
    (hs : ∀ q, q < G.2.1 → ¬ (q = D.2.1 r ∨ (q = D.2.2.1 r ∧ e' = D.2.2.1 r)) → G'.2.2 q = G.2.2 q) (hel : gKeep G G') (hth : ∀ t, t ∈ ts → mTh G' t.1 t.2) (hlen : ts.length ≤ 31) :
    MRep w G' o (mRows A r ts) (dRow D r e') := by
  obtain ⟨k1, k2, k3, k4, k5, k6, k7, k8, k9, k10⟩ := h
  have hrow := k3 r hr
  have hal : ∃ fs, G.2.2 (D.2.1 r) = some (.inr (9, fs)) := by obtain ⟨m, κ, cap, f, h1, -⟩ := hrow; exact ⟨_, h1⟩
  obtain ⟨fs, hal⟩ := hal
  obtain ⟨f0, hw0⟩ := hw0
  -- cells that are neither the list nor its array stay
  have st : ∀ q z, G.2.2 q = some z → (∀ fs, z ≠ .inr (9, fs)) → (∀ n f, z ≠ zQ 103 n f) → G'.2.2 q = some z := by
    intro q z hq h9 hQ
    rw [hs q (hw _ _ hq), hq]
    rintro (rfl | ⟨rfl, e1⟩)
    · rw [hal] at hq; exact h9 _ (Option.some.inj hq).symm
    · rcases he' with ⟨-, cap, f, e2⟩ | e2
      · rw [e2] at hq; exact hQ _ _ (Option.some.inj hq).symm
      · have := hw _ _ hq; omega
  have stA : ∀ a e xs, isAL w G a e xs → a ≠ D.2.1 r → (e = D.2.2.1 r → e = w 0) → isAL w G' a e xs := by
    intro a e xs ha hne hee
    have hne' := hrow.ne ha
    have hne2 := ha.ne hrow
    obtain ⟨m, κ, cap, f, h1, h2, -⟩ := id ha
    refine ha.cell (hs a (hw _ _ h1) ?_) (hs e (hw _ _ h2) ?_) hel
    · rintro (q | ⟨q, -⟩)
      · exact hne q
      · exact hne2 q
    · rintro (q | ⟨q, q2⟩)
      · exact hne' q.symm
      · rcases he' with ⟨-, cap', f', e2⟩ | e2
        · have q3 := hee q
          rw [← q, q3, hw0] at e2
          have := (zQ_inj e2).1; omega
        · have := hw _ _ h2; omega
  have eW : D.2.2.1 r = w 0 → e' = G.2.1 := by
    intro q
    rcases he' with ⟨-, cap', f', e2⟩ | e2
    · rw [q, hw0] at e2
      have := (zQ_inj e2).1; omega
    · exact e2
  have hlt : ∀ i, i < 2 → D.2.2.1 i < G.2.1 := by
    intro i hi
    obtain ⟨m, κ, cap, f, -, h2, -⟩ := k3 i hi
    exact hw _ _ h2
  refine ⟨st _ _ k1 (fun _ q => by cases q) (fun _ _ q => by cases q), stA _ _ _ k2 (k9.2.1 r hr).1 (fun q => absurd q (k9.2.1 r hr).2), fun i hi => ?_,
    st _ _ k4 (fun _ q => by cases q) (fun _ _ q => by have := (zQ_inj (congrArg some q)).1; omega), st _ _ k5 (fun _ q => by cases q) (fun _ _ q => by have := (zQ_inj (congrArg some q)).1; omega), fun i hi t ht => ?_, fun p hp => ?_, fun c hc => ?_, ⟨k9.1, fun i hi => ⟨(k9.2.1 i hi).1, ?_⟩, ?_, k9.2.2.2.1, k9.2.2.2.2⟩, fun i hi => ?_⟩
  · show isAL w G' (D.2.1 i) (if i = r then e' else D.2.2.1 i) ((if i = r then ts else A.1 i).map _)
    by_cases hir : i = r
    · subst hir; rw [if_pos rfl, if_pos rfl]; exact hn
    · rw [if_neg hir, if_neg hir]
      have hx := k9.1
      have hy := k9.2.2.1
      rcases (by omega : (i = 0 ∧ r = 1) ∨ (i = 1 ∧ r = 0)) with ⟨rfl, rfl⟩ | ⟨rfl, rfl⟩
      · exact stA _ _ _ (k3 0 hi) hx hy
      · exact stA _ _ _ (k3 1 hi) hx.symm (fun q => q.trans (hy q.symm))
  · have ht' : t ∈ (if i = r then ts else A.1 i) := ht
    by_cases hir : i = r
    · rw [if_pos hir] at ht'; exact hth t ht'
    · rw [if_neg hir] at ht'
      exact (k6 i hi t ht').trs (N := fun z => (∀ fs, z ≠ .inr (9, fs)) ∧ ∀ n f, z ≠ zQ 103 n f) (fun g => ⟨fun _ q => (by cases q), fun _ _ q => (by cases q)⟩) (fun q z hq hz => st q z hq hz.1 hz.2)
  · exact (k7 p hp).tr (N := fun z => (∀ fs, z ≠ .inr (9, fs)) ∧ ∀ n f, z ≠ zQ 103 n f) (fun fs => ⟨fun _ q => (by cases q), fun _ _ q => (by cases q)⟩) (fun q z hq hz => st q z hq hz.1 hz.2)
  · exact (k8 c hc).tr (N := fun z => (∀ fs, z ≠ .inr (9, fs)) ∧ ∀ n f, z ≠ zQ 103 n f) (fun fs => ⟨fun _ q => (by cases q), fun _ _ q => (by cases q)⟩) (fun q z hq hz => st q z hq hz.1 hz.2)
  · show D.1.2.1 ≠ (if i = r then e' else D.2.2.1 i)
    by_cases hir : i = r
    · rw [if_pos hir]
      rcases he' with ⟨e1, -⟩ | e1
      · rw [e1]; exact (k9.2.1 r hr).2
      · obtain ⟨m, κ, cap, f, -, h2, -⟩ := k2
        have := hw _ _ h2; omega
    · rw [if_neg hir]; exact (k9.2.1 i hi).2
  · show (if 0 = r then e' else D.2.2.1 0) = (if 1 = r then e' else D.2.2.1 1) → (if 0 = r then e' else D.2.2.1 0) = w 0
    have l0 := hlt 0 (by omega)
    have l1 := hlt 1 (by omega)
    have hy := k9.2.2.1
    rcases (by omega : r = 0 ∨ r = 1) with rfl | rfl
    · rw [if_pos rfl, if_neg (by omega)]
      intro q
      rcases he' with ⟨e1, -⟩ | e1
      · have := eW (hy (e1.symm.trans q)); omega
      · omega
    · rw [if_neg (by omega), if_pos rfl]
      intro q
      rcases he' with ⟨e1, -⟩ | e1
      · exact hy (q.trans e1)
      · omega
  · show (if i = r then ts else A.1 i).length ≤ 31
    by_cases hir : i = r
    · rw [if_pos hir]; exact hlen
    · rw [if_neg hir]; exact k10 i hi
theorem ins_map {α β : Type} (f : α → β) (a : α) : ∀ (l : List α) (i : Nat), (l.insertIdx i a).map f = (l.map f).insertIdx i (f a)
  | l, 0 => by simp
  | [], i + 1 => by simp
  | x :: l, i + 1 => by simp [ins_map f a l i]
theorem ins_mem {α : Type} {a b : α} : ∀ (l : List α) (i : Nat), b ∈ l.insertIdx i a → b = a ∨ b ∈ l
  | l, 0, h => by simpa using h
  | [], i + 1, h => by simp at h
  | x :: l, i + 1, h => by
    rw [List.insertIdx_succ_cons] at h
    rcases List.mem_cons.mp h with q | q
    · exact Or.inr (List.mem_cons.mpr (Or.inl q))
    · exact (ins_mem l i q).imp_right (fun z => List.mem_cons.mpr (Or.inr z))
theorem m_come {w : Nat → Nat} {G : gH} {o p r b i : Nat} {A : mS} {D : mD} {t : Nat × Nat × Nat} (hw : gWf G) (h : MRep w G o A D) (hw0 : mW0 w G) (hp : p < 6) (k : mRw A.2.1 zDp p = some (r, b)) (hi : b + i ≤ (A.1 r).length) (hl : (A.1 r).length ≤ 30) (ht : mTh G t.1 t.2) :
    ∃ G' e', f_M_come w G o (nI p) (nI i) (t.1) = rV G' ∧ MRep w G' o (mRows A r ((A.1 r).insertIdx (b + i) t)) (dRow D r e') ∧ mSt 1 61 G G' ∧ ((e' = D.2.2.1 r ∧ ∃ cap f, G.2.2 (D.2.2.1 r) = some (zQ 103 cap f)) ∨ e' = G.2.1) ∧ gFr (fun q => q = D.2.1 r ∨ (q = D.2.2.1 r ∧ e' = D.2.2.1 r)) 1 61 G G' := by
  have hr := mRw_lt _ _ _ _ k
  have hrow := h.2.2.1 r hr
  obtain ⟨g, ht1, -⟩ := id ht
  obtain ⟨e', G', a1, a2, a3, a4, a5, a6⟩ := al_ins (i := b + i) (y := t.1) hw hrow (by rw [List.length_map]; omega) (by rw [List.length_map]; omega) (Or.inr ⟨_, _, ht1⟩) (hrow.ne hrow)
  obtain ⟨m, κ, cap, f, h1, h2, -⟩ := id hrow
  have hsame : ∀ q z, G.2.2 q = some z → (∀ fs, z ≠ .inr (9, fs)) → (∀ c n f, z ≠ zQ c n f) → G'.2.2 q = some z := by
    intro q z hq h9 hQ
    rw [a5.2.2.2.2.2 q (hw _ _ hq), hq]
    rintro (rfl | ⟨rfl, -⟩)
    · rw [h1] at hq; exact h9 _ (Option.some.inj hq).symm
    · rw [h2] at hq; exact hQ _ _ _ (Option.some.inj hq).symm
  refine ⟨G', e', ?_, h.row hw hw0 hr (by rw [ins_map]; exact a2) a4 (fun q hq hn => a5.2.2.2.2.2 q hq ?_) a6 (fun t' ht' => ?_) (by rw [List.length_insertIdx_of_le_length hi]; omega), ⟨a5.mono (fun q _ hq => ?_) (Nat.le_refl _) (Nat.le_refl _), a6⟩, a4, a5⟩
  · unfold f_M_come
    rw [gOb_of h.1 rfl, m_row h hp k]
    show gOb G o 6 _ = _
    rw [gOb_of h.1 rfl, m_base h _ _ _ _ hp k]
    show gOb G (D.2.1 r) 9 _ = _
    rw [gOb_of h1 rfl, nI_add, a1]
    rfl
  · exact hn
  · have ht2 : mTh G t'.1 t'.2 := by
      rcases ins_mem _ _ ht' with q | q
      · rw [q]; exact ht
      · exact h.2.2.2.2.2.1 r hr t' q
    obtain ⟨g', j1, j2⟩ := ht2
    exact ⟨g', hsame _ _ j1 (fun _ q => by cases q) (fun _ _ _ q => by cases q), j2⟩
  · rcases hq with rfl | ⟨rfl, he⟩
    · exact ⟨_, h1, Or.inl ⟨9, _, rfl, by omega⟩⟩
    · rcases a4 with ⟨-, cap', f', e2⟩ | e2
      · exact ⟨_, e2, Or.inr ⟨_, _, _, rfl, by decide⟩⟩
      · have := hw _ _ h2; omega
theorem er_map {α β : Type} (f : α → β) : ∀ (l : List α) (i : Nat), (l.eraseIdx i).map f = (l.map f).eraseIdx i
  | [], i => by simp
  | x :: l, 0 => by simp
  | x :: l, i + 1 => by simp [er_map f l i]
theorem er_mem {α : Type} {b : α} : ∀ (l : List α) (i : Nat), b ∈ l.eraseIdx i → b ∈ l
  | [], i, h => by simp at h
  | x :: l, 0, h => by simp at h; exact List.mem_cons.mpr (Or.inr h)
  | x :: l, i + 1, h => by
    rw [List.eraseIdx_cons_succ] at h
    rcases List.mem_cons.mp h with q | q
    · exact List.mem_cons.mpr (Or.inl q)
    · exact List.mem_cons.mpr (Or.inr (er_mem l i q))
theorem m_take {w : Nat → Nat} {G : gH} {o p r b i : Nat} {A : mS} {D : mD} {t : Nat × Nat × Nat} (hw : gWf G) (h : MRep w G o A D) (hw0 : mW0 w G) (hp : p < 6) (k : mRw A.2.1 zDp p = some (r, b)) (hi : (A.1 r)[b + i]? = some t) :
    ∃ G', f_M_take G o (nI p) (nI i) = rA (t.1) G' ∧ MRep w G' o (mRows A r ((A.1 r).eraseIdx (b + i))) (dRow D r (D.2.2.1 r)) ∧ mSt 0 0 G G' ∧ mTh G' t.1 t.2 ∧ gFr (fun q => q = D.2.1 r ∨ q = D.2.2.1 r) 0 0 G G' := by
  have hr := mRw_lt _ _ _ _ k
  have hrow := h.2.2.1 r hr
  have ht := h.2.2.2.2.2.1 r hr t (List.mem_of_getElem? hi)
  obtain ⟨G', a1, a2, a5, a6⟩ := al_remove (i := b + i) (x := t.1) hw hrow (by rw [List.getElem?_map, hi]; rfl) (hrow.ne hrow)
  obtain ⟨m, κ, cap, f, h1, h2, h3, h4, -⟩ := id hrow
  have hlt : b + i < (A.1 r).length := (List.getElem?_eq_some_iff.mp hi).1
  have hκ : ∃ cap f, G.2.2 (D.2.2.1 r) = some (zQ 103 cap f) := by
    rcases h3 with ⟨rfl, -⟩ | ⟨-, -, rfl⟩
    · exact ⟨cap, f, h2⟩
    · rw [List.length_map] at h4; omega
  have hsame : ∀ q z, G.2.2 q = some z → (∀ fs, z ≠ .inr (9, fs)) → (∀ c n f, z ≠ zQ c n f) → G'.2.2 q = some z := by
    intro q z hq h9 hQ
    rw [a5.2.2.2.2.2 q (hw _ _ hq), hq]
    rintro (rfl | rfl)
    · rw [h1] at hq; exact h9 _ (Option.some.inj hq).symm
    · rw [h2] at hq; exact hQ _ _ _ (Option.some.inj hq).symm
  have hmt : ∀ t', t' ∈ A.1 r → mTh G' t'.1 t'.2 := by
    intro t' ht'
    obtain ⟨g', j1, j2⟩ := h.2.2.2.2.2.1 r hr t' ht'
    exact ⟨g', hsame _ _ j1 (fun _ q => by cases q) (fun _ _ _ q => by cases q), j2⟩
  have htG := hmt t (List.mem_of_getElem? hi)
  refine ⟨G', ?_, h.row hw hw0 hr (by rw [er_map]; exact a2) (Or.inl ⟨rfl, hκ⟩) (fun q hq hn => a5.2.2.2.2.2 q hq (fun z => hn (z.imp_right (fun y => ⟨y, rfl⟩)))) a6 (fun t' ht' => hmt t' (er_mem _ _ ht')) (by
    have := h.2.2.2.2.2.2.2.2.2 r hr
    rw [List.length_eraseIdx_of_lt hlt]; omega), ⟨a5.mono (fun q _ hq => ?_) (Nat.le_refl _) (Nat.le_refl _), a6⟩, htG, a5⟩
  · obtain ⟨g, t1, -⟩ := htG
    unfold f_M_take
    rw [gOb_of h.1 rfl, m_row h hp k]
    show gOb G o 6 _ = _
    rw [gOb_of h.1 rfl, m_base h _ _ _ _ hp k]
    show gOb G (D.2.1 r) 9 _ = _
    rw [gOb_of h1 rfl, nI_add, a1]
    show gCaA G' _ 100 _ = _
    unfold gCaA gAr
    rw [t1]
    rfl
  · rcases hq with rfl | rfl
    · exact ⟨_, h1, Or.inl ⟨9, _, rfl, by omega⟩⟩
    · obtain ⟨cap', f', e2⟩ := hκ
      exact ⟨_, e2, Or.inr ⟨_, _, _, rfl, by decide⟩⟩
end
section
-- numbers: shifts, masks, differences on small naturals
theorem nI_shl5 (a : Nat) : nI a <<< (nI 5 &&& 31) = nI (32 * a) := by
  apply Int32.toBitVec_inj.mp
  rw [Int32.toBitVec_shiftLeft]
  show (BitVec.ofNat 32 a) <<< ((nI 5 &&& 31).toBitVec.smod 32) = BitVec.ofNat 32 (32 * a)
  rw [show (nI 5 &&& 31).toBitVec.smod 32 = 5#32 by decide]
  apply BitVec.eq_of_toNat_eq
  rw [BitVec.shiftLeft_eq', BitVec.toNat_shiftLeft, BitVec.toNat_ofNat, BitVec.toNat_ofNat, Nat.shiftLeft_eq]
  show a % 2 ^ 32 * 2 ^ 5 % 2 ^ 32 = 32 * a % 2 ^ 32
  omega
theorem nI_shr5 {a : Nat} (h : a < 2 ^ 31) : nI a >>> (nI 5 &&& 31) = nI (a / 32) := by
  apply Int32.toBitVec_inj.mp
  rw [Int32.toBitVec_shiftRight]
  show BitVec.sshiftRight' (BitVec.ofNat 32 a) ((nI 5 &&& 31).toBitVec.smod 32) = BitVec.ofNat 32 (a / 32)
  rw [show (nI 5 &&& 31).toBitVec.smod 32 = 5#32 by decide]
  show (BitVec.ofNat 32 a).sshiftRight 5 = _
  have hm : (BitVec.ofNat 32 a).msb = false := by
    rw [BitVec.msb_eq_decide, BitVec.toNat_ofNat, decide_eq_false_iff_not]
    omega
  rw [BitVec.sshiftRight_eq_of_msb_false hm]
  apply BitVec.eq_of_toNat_eq
  rw [BitVec.toNat_ushiftRight, BitVec.toNat_ofNat, BitVec.toNat_ofNat, Nat.shiftRight_eq_div_pow]
  show a % 2 ^ 32 / 2 ^ 5 = a / 32 % 2 ^ 32
  omega
theorem nI_and31 (a : Nat) : nI a &&& nI 31 = nI (a % 32) := by
  show Int32.ofNat a &&& Int32.ofNat 31 = _
  apply Int32.toBitVec_inj.mp
  show BitVec.ofNat 32 a &&& BitVec.ofNat 32 31 = BitVec.ofNat 32 (a % 32)
  apply BitVec.eq_of_toNat_eq
  rw [BitVec.toNat_and, BitVec.toNat_ofNat, BitVec.toNat_ofNat, BitVec.toNat_ofNat]
  show a % 2 ^ 32 &&& (2 ^ 5 - 1) % 2 ^ 32 = a % 32 % 2 ^ 32
  rw [show (2 ^ 5 - 1) % 2 ^ 32 = 2 ^ 5 - 1 by decide, Nat.and_two_pow_sub_one_eq_mod]
  omega
theorem nI_or5 (a : Nat) {k : Nat} (hk : k < 32) : nI (32 * a) ||| nI k = nI (32 * a + k) := by
  apply Int32.toBitVec_inj.mp
  show BitVec.ofNat 32 (32 * a) ||| BitVec.ofNat 32 k = BitVec.ofNat 32 (32 * a + k)
  apply BitVec.eq_of_toNat_eq
  rw [BitVec.toNat_or, BitVec.toNat_ofNat, BitVec.toNat_ofNat, BitVec.toNat_ofNat]
  rw [show 32 * a % 2 ^ 32 = 2 ^ 5 * (a % 2 ^ 27) by omega, show k % 2 ^ 32 = k by omega, ← Nat.two_pow_add_eq_or_of_lt (show k < 2 ^ 5 from hk)]
  omega
theorem nI_sub {a b : Nat} (h : b ≤ a) : nI a - nI b = nI (a - b) := by
  have e : nI a = nI (a - b) + nI b := by rw [nI_add, Nat.sub_add_cancel h]
  rw [e, Int32.add_sub_cancel]
theorem nI_m1 (a : Nat) : nI (a + 1) + (-1) = nI a := by
  rw [← Int32.sub_eq_add_neg]
  exact nI_pred a
theorem nI_neg {z : Int32} (h : z < 0) {a : Nat} (ha : a < 2 ^ 31) : z ≠ nI a := fun e => nI_pos ha (by rw [← e]; exact h)
theorem nI_1m : (-1 : Int32) < 0 := by decide
theorem nI_ne1 {a : Nat} (ha : a < 2 ^ 31) : nI a ≠ -1 := fun e => nI_pos ha (by rw [e]; decide)
theorem nI_mul (a b : Nat) : nI a * nI b = nI (a * b) := (Int32.ofNat_mul a b).symm
theorem nI_divI {a b : Nat} (ha : a < 2 ^ 31) (hb : b < 2 ^ 31) : nI a / nI b = nI (a / b) := by
  apply Int32.toInt_inj.mp
  rw [Int32.toInt_div, nI_toInt ha, nI_toInt hb, nI_toInt (Nat.lt_of_le_of_lt (Nat.div_le_self _ _) ha)]
  rw [show (a : Int).tdiv b = ((a / b : Nat) : Int) from rfl]
  have h1 : a / b ≤ a := Nat.div_le_self _ _
  generalize a / b = q at h1
  rw [Int.bmod_eq_of_le] <;> omega
theorem nI_rem {a b : Nat} (ha : a < 2 ^ 31) (hb : b < 2 ^ 31) : nI a - nI a / nI b * nI b = nI (a % b) := by
  rw [nI_divI ha hb, nI_mul, nI_sub (Nat.div_mul_le_self a b)]
  congr 1
  have := Nat.div_add_mod a b
  rw [Nat.mul_comm] at this
  omega
theorem gRem_of {a b : Nat} {k : Int32 → gR} (ha : a < 2 ^ 31) (hb : b < 2 ^ 31) (h0 : 0 < b) : gRem (nI a) (nI b) k = k (nI (a % b)) := by
  unfold gRem
  rw [if_neg (nI_ne0 h0 hb), nI_rem ha hb]
theorem rd_nI {n i : Nat} {f : Nat → Int32} (h : i < n) (hn : n < 2 ^ 31) : rd n f (nI i) = f i := by
  unfold rd
  rw [if_neg (nI_pos (by omega)), if_neg (nI_ge h hn), nI_clamp (by omega)]
theorem rd_m1 {n : Nat} {f : Nat → Int32} : rd n f (-1) = -1 := if_pos (by decide)
theorem wr_nI {σ : cS} {k n i : Nat} {x : Int32} (h : i < n) (hn : n < 2 ^ 31) : wr σ k n (nI i) x = cSet σ k i x := by
  unfold wr
  rw [if_neg (nI_pos (by omega)), if_neg (nI_ge h hn), nI_clamp (by omega)]
theorem rd_out {n : Nat} {f : Nat → Int32} {x : Int32} (h : ¬ ∃ i, i < n ∧ x = nI i) (hn : n < 2 ^ 31) : rd n f x = -1 := by
  unfold rd
  by_cases h1 : x < 0
  · rw [if_pos h1]
  · rw [if_neg h1]
    obtain ⟨j, hj, rfl⟩ := nI_of h1
    rcases Nat.lt_or_ge j n with q | q
    · exact absurd ⟨j, q, rfl⟩ h
    · rw [if_pos (nI_le q hj)]
end
section
-- what ends, and what stays: parts
def o1 {α : Type} (x : Option α) : Nat := match x with
  | none => 0
  | some _ => 1
def mPc (P : Nat → Option (Nat × Nat × Nat)) : Nat := o1 (P 2) + o1 (P 3) + o1 (P 4) + o1 (P 5)
def mKk (C : Nat → Option (Nat × Nat × Int32 × Int32)) : Nat := o1 (C 0) + o1 (C 1) + o1 (C 2)
theorem mPc_up {P : Nat → Option (Nat × Nat × Nat)} {p : Nat} (h2 : 2 ≤ p) (h6 : p < 6) (h : P p ≠ none) : 1 + mPc (va_up P p none) = mPc P := by
  cases hx : P p with
  | none => exact absurd hx h
  | some x =>
    rcases (by omega : p = 2 ∨ p = 3 ∨ p = 4 ∨ p = 5) with rfl | rfl | rfl | rfl <;> simp [mPc, va_up, o1, hx] <;> omega
theorem mKk_up {C : Nat → Option (Nat × Nat × Int32 × Int32)} {c : Nat} (h3 : c < 3) (h : C c ≠ none) : 1 + mKk (va_up C c none) = mKk C := by
  cases hx : C c with
  | none => exact absurd hx h
  | some x =>
    rcases (by omega : c = 0 ∨ c = 1 ∨ c = 2) with rfl | rfl | rfl <;> simp [mKk, va_up, o1, hx] <;> omega
theorem mKk_set {C : Nat → Option (Nat × Nat × Int32 × Int32)} {c : Nat} {y : Nat × Nat × Int32 × Int32} (h : C c ≠ none) : mKk (va_up C c (some y)) = mKk C := by
  have : ∀ i, o1 (va_up C c (some y) i) = o1 (C i) := by
    intro i
    simp only [va_up]
    by_cases hi : i = c
    · subst hi
      rw [if_pos rfl]
      cases hx : C i with
      | none => exact absurd hx h
      | some x => rfl
    · rw [if_neg hi]
  simp only [mKk, this]
/-- from A to A' n parts have ended, and the cursors on them -/
def mEnds (A A' : mS) (n : Nat) : Prop :=
  A'.1 = A.1 ∧ mSub A'.2.1 A.2.1 ∧
  (∀ c, A'.2.2.1 c = A.2.2.1 c ∨ (A'.2.2.1 c = none ∧ ∃ x, A.2.2.1 c = some x ∧ 2 ≤ x.1 ∧ A'.2.1 x.1 = none)) ∧
  (∀ c x, c < 3 → A'.2.2.1 c = some x → 2 ≤ x.1 → A.2.1 x.1 ≠ none → A'.2.1 x.1 ≠ none) ∧
  (∀ j, j ≠ 2 → j ≠ 3 → A'.2.2.2 j = A.2.2.2 j) ∧ A'.2.2.2 2 = A.2.2.2 2 + nI n ∧ n + mPc A'.2.1 = mPc A.2.1 ∧
  ∃ k, A'.2.2.2 3 = A.2.2.2 3 + nI k ∧ k + mKk A'.2.2.1 = mKk A.2.2.1
theorem add_nI (x : Int32) (a b : Nat) : x + nI a + nI b = x + nI (a + b) := by rw [Int32.add_assoc, nI_add]
theorem add_nI0 (x : Int32) : x + nI 0 = x := Int32.add_zero x
theorem mEnds.refl {A : mS} : mEnds A A 0 := ⟨rfl, fun _ _ h => h, fun _ => Or.inl rfl, fun _ _ _ _ _ h => h, fun _ _ _ => rfl, (add_nI0 _).symm, Nat.zero_add _, 0, (add_nI0 _).symm, Nat.zero_add _⟩
theorem mEnds.trans {A B C : mS} {n m : Nat} (h1 : mEnds A B n) (h2 : mEnds B C m) : mEnds A C (n + m) := by
  obtain ⟨a1, a2, a3, a4, a5, a6, a7, k, a8, a9⟩ := h1
  obtain ⟨b1, b2, b3, b4, b5, b6, b7, l, b8, b9⟩ := h2
  refine ⟨b1.trans a1, a2.trans b2, fun c => ?_, fun c x hc hx h2 hA => ?_, fun j h2 h3 => (b5 j h2 h3).trans (a5 j h2 h3), by rw [b6, a6, add_nI], by omega, k + l, by rw [b8, a8, add_nI], by omega⟩
  · rcases b3 c with e | ⟨e, x, f1, f2, f3⟩
    · rcases a3 c with e' | ⟨e', x, f1, f2, f3⟩
      · exact Or.inl (e.trans e')
      · refine Or.inr ⟨e.trans e', x, f1, f2, ?_⟩
        cases hq : C.2.1 x.1 with
        | none => rfl
        | some y => rw [b2 _ _ hq] at f3; cases f3
    · refine Or.inr ⟨e, x, ?_, f2, f3⟩
      rcases a3 c with e' | ⟨e', -⟩
      · rw [← e']; exact f1
      · rw [e'] at f1; cases f1
  · have e : C.2.2.1 c = B.2.2.1 c := by
      rcases b3 c with e | ⟨e, -⟩
      · exact e
      · rw [e] at hx; cases hx
    exact b4 c x hc hx h2 (a4 c x hc (by rw [← e]; exact hx) h2 hA)
/-- cursors on p end -/
def mEc (p : Nat) (A B : mS) : Prop :=
  B.1 = A.1 ∧ B.2.1 = A.2.1 ∧ (∀ c, B.2.2.1 c = A.2.2.1 c ∨ (B.2.2.1 c = none ∧ ∃ x, A.2.2.1 c = some x ∧ x.1 = p)) ∧ (∀ j, j ≠ 3 → B.2.2.2 j = A.2.2.2 j) ∧
  ∃ k, B.2.2.2 3 = A.2.2.2 3 + nI k ∧ k + mKk B.2.2.1 = mKk A.2.2.1
theorem mEc.trans {p : Nat} {A B C : mS} (h1 : mEc p A B) (h2 : mEc p B C) : mEc p A C := by
  obtain ⟨a1, a2, a3, a5, k, a8, a9⟩ := h1
  obtain ⟨b1, b2, b3, b5, l, b8, b9⟩ := h2
  refine ⟨b1.trans a1, b2.trans a2, fun c => ?_, fun j h3 => (b5 j h3).trans (a5 j h3), k + l, by rw [b8, a8, add_nI], by omega⟩
  rcases b3 c with e | ⟨e, x, f1, f2⟩
  · rcases a3 c with e' | ⟨e', f⟩
    · exact Or.inl (e.trans e')
    · exact Or.inr ⟨e.trans e', f⟩
  · refine Or.inr ⟨e, x, ?_, f2⟩
    rcases a3 c with e' | ⟨e', -⟩
    · rw [← e']; exact f1
    · rw [e'] at f1; cases f1
theorem mEc.step (p : Nat) (A : mS) {c : Nat} (hc : c < 3) : mEc p A (mECst p A c) ∧ ∀ x, (mECst p A c).2.2.1 c = some x → x.1 ≠ p := by
  unfold mECst
  cases hx : A.2.2.1 c with
  | none =>
    refine ⟨⟨rfl, rfl, fun _ => Or.inl rfl, fun _ _ => rfl, 0, (add_nI0 _).symm, Nat.zero_add _⟩, fun x h => ?_⟩
    show x.1 ≠ p
    have h' : A.2.2.1 c = some x := h
    rw [hx] at h'; cases h'
  | some x =>
    show mEc p A (if x.1 = p then mEndC A c else A) ∧ ∀ y, (if x.1 = p then mEndC A c else A).2.2.1 c = some y → y.1 ≠ p
    by_cases hp : x.1 = p
    · rw [if_pos hp]
      refine ⟨⟨rfl, rfl, fun c' => ?_, fun j hj => if_neg hj, 1, rfl, mKk_up hc (by rw [hx]; exact Option.some_ne_none _)⟩, fun y hy => ?_⟩
      · show va_up A.2.2.1 c none c' = _ ∨ (va_up A.2.2.1 c none c' = none ∧ _)
        simp only [va_up]
        by_cases e : c' = c
        · subst e; rw [if_pos rfl]; exact Or.inr ⟨rfl, x, hx, hp⟩
        · rw [if_neg e]; exact Or.inl rfl
      · have h' : va_up A.2.2.1 c none c = some y := hy
        simp [va_up] at h'
    · rw [if_neg hp]
      refine ⟨⟨rfl, rfl, fun _ => Or.inl rfl, fun _ _ => rfl, 0, (add_nI0 _).symm, Nat.zero_add _⟩, fun y h => ?_⟩
      rw [hx] at h; cases h; exact hp
theorem mEc.keep {p : Nat} {A B : mS} (h : mEc p A B) {c : Nat} (hA : ∀ x, A.2.2.1 c = some x → x.1 ≠ p) : ∀ x, B.2.2.1 c = some x → x.1 ≠ p := by
  intro x hx
  rcases h.2.2.1 c with e | ⟨e, -⟩
  · exact hA x (by rw [← e]; exact hx)
  · rw [e] at hx; cases hx
theorem mEc.all (p : Nat) (A : mS) : mEc p A ((List.range' 0 3).foldl (mECst p) A) ∧ ∀ c x, c < 3 → ((List.range' 0 3).foldl (mECst p) A).2.2.1 c = some x → x.1 ≠ p := by
  show mEc p A (mECst p (mECst p (mECst p A 0) 1) 2) ∧ ∀ c x, c < 3 → (mECst p (mECst p (mECst p A 0) 1) 2).2.2.1 c = some x → x.1 ≠ p
  obtain ⟨a1, a2⟩ := mEc.step p A (c := 0) (by omega)
  obtain ⟨b1, b2⟩ := mEc.step p (mECst p A 0) (c := 1) (by omega)
  obtain ⟨c1, c2⟩ := mEc.step p (mECst p (mECst p A 0) 1) (c := 2) (by omega)
  refine ⟨(a1.trans b1).trans c1, fun c x hc => ?_⟩
  rcases (by omega : c = 0 ∨ c = 1 ∨ c = 2) with rfl | rfl | rfl
  · exact (b1.trans c1).keep a2 x
  · exact c1.keep b2 x
  · exact c2 x
theorem mEnds.one {p : Nat} {A : mS} (h2 : 2 ≤ p) (h6 : p < 6) (h : A.2.1 p ≠ none) : mEnds A (mEPz p ((List.range' 0 3).foldl (mECst p) A)) 1 := by
  obtain ⟨⟨a1, a2, a3, a5, k, a8, a9⟩, b⟩ := mEc.all p A
  generalize (List.range' 0 3).foldl (mECst p) A = B at *
  refine ⟨a1, fun q x hq => ?_, fun c => ?_, fun c x hc hx h2 hA => ?_, fun j h2 h3 => ?_, ?_, ?_, k, ?_, a9⟩
  · have hq' : va_up B.2.1 p none q = some x := hq
    simp only [va_up] at hq'
    by_cases e : q = p
    · rw [if_pos e] at hq'; cases hq'
    · rw [if_neg e, a2] at hq'; exact hq'
  · show B.2.2.1 c = _ ∨ (B.2.2.1 c = none ∧ ∃ x : Nat × Nat × Int32 × Int32, _ ∧ _ ∧ va_up B.2.1 p none x.1 = none)
    rcases a3 c with e | ⟨e, x, f1, f2⟩
    · exact Or.inl e
    · exact Or.inr ⟨e, x, f1, by omega, by simp [va_up, f2]⟩
  · show va_up B.2.1 p none x.1 ≠ none
    simp only [va_up]
    rw [if_neg (b c x hc hx), a2]; exact hA
  · show (if j = 2 then _ else B.2.2.2 j) = _
    rw [if_neg h2]; exact a5 j h3
  · show B.2.2.2 2 + nI 1 = _
    rw [a5 2 (by omega)]
  · show 1 + mPc (va_up B.2.1 p none) = _
    rw [a2]; exact mPc_up h2 h6 h
  · exact a8
theorem mEPs_ends {d p : Nat} {ρ : Nat → Nat} (hp2 : 2 ≤ p)
    (hr : ∀ (A : mS) (q : Nat), mOk A.2.1 → mDeep d A.2.1 q → A.2.1 q ≠ none → mEnds A (mEP d A q).1 (mEP d A q).2) :
    ∀ (k j : Nat) (s : mS × Nat), 2 ≤ j → j + k ≤ 6 → mOk s.1.2.1 → (∀ q x, s.1.2.1 q = some x → x.1 < 2 ∨ (s.1.2.1 x.1 ≠ none ∧ ρ x.1 < ρ q)) → mDeep (d + 1) s.1.2.1 p → s.1.2.1 p ≠ none →
    ∃ m, ((List.range' j k).foldl (mEPst (mEP d) p) s).2 = s.2 + m ∧ mEnds s.1 ((List.range' j k).foldl (mEPst (mEP d) p) s).1 m ∧ ((List.range' j k).foldl (mEPst (mEP d) p) s).1.2.1 p = s.1.2.1 p
  | 0, j, s, _, _, _, _, _, _ => ⟨0, rfl, mEnds.refl, rfl⟩
  | k + 1, j, s, hj2, hj, hok, hρ, h3, hpp => by
    rw [List.range'_succ, List.foldl_cons]
    obtain ⟨A, c⟩ := s
    cases hc : A.2.1 j with
    | none =>
      have e : mEPst (mEP d) p (A, c) j = (A, c) := by unfold mEPst; rw [hc]
      rw [e]
      exact mEPs_ends hp2 hr k (j + 1) (A, c) (by omega) (by omega) hok hρ h3 hpp
    | some x =>
      by_cases hx : x.1 = p
      · have e : mEPst (mEP d) p (A, c) j = ((mEP d A j).1, c + (mEP d A j).2) := by unfold mEPst; rw [hc]; exact if_pos hx
        have hdj : mDeep d A.2.1 j := h3 j x hj2 (by omega) hc hx
        obtain ⟨k1, k2, k3⟩ := mEP_cl d A j hok.1 hok.cl hdj
        have hE := hr A j hok hdj (by rw [hc]; exact Option.some_ne_none _)
        have hpk : (mEP d A j).1.2.1 p = A.2.1 p := by
          refine mEP_keep (K := fun q => q < 2 ∨ (A.2.1 q ≠ none ∧ ρ q ≤ ρ p)) d A j (fun q hq h2 => ?_) ?_ p (Or.inr ⟨hpp, Nat.le_refl _⟩) hp2
          · rcases hq with hq | hq
            · omega
            · cases hy : A.2.1 q with
              | none => exact absurd hy hq.1
              | some y =>
                refine ⟨y, rfl, ?_⟩
                rcases hρ q y hy with z | z
                · exact Or.inl z
                · exact Or.inr ⟨z.1, by have := z.2; omega⟩
          · rintro (z | z)
            · omega
            · rcases hρ j x hc with y | y
              · omega
              · have := y.2; rw [hx] at this; omega
        rw [e]
        obtain ⟨m, z1, z2, z3⟩ := mEPs_ends (ρ := ρ) hp2 hr k (j + 1) ((mEP d A j).1, c + (mEP d A j).2) (by omega) (by omega) (hok.sub k3 k1) (fun q y hq => by
          rcases k1 q y hq with z | z
          · exact Or.inl z
          · rcases hρ q y (k3 q y hq) with z' | z'
            · exact Or.inl z'
            · exact Or.inr ⟨z, z'.2⟩) (h3.sub k3) (by show (mEP d A j).1.2.1 p ≠ none; rw [hpk]; exact hpp)
        exact ⟨(mEP d A j).2 + m, by rw [z1]; show c + _ + m = c + _; omega, hE.trans z2, z3.trans hpk⟩
      · have e : mEPst (mEP d) p (A, c) j = (A, c) := by unfold mEPst; rw [hc]; exact if_neg hx
        rw [e]
        exact mEPs_ends hp2 hr k (j + 1) (A, c) (by omega) (by omega) hok hρ h3 hpp
theorem mEP_ends : ∀ (d : Nat) (A : mS) (p : Nat), mOk A.2.1 → mDeep d A.2.1 p → A.2.1 p ≠ none → mEnds A (mEP d A p).1 (mEP d A p).2
  | 0, _, _, _, h, _ => h.elim
  | d + 1, A, p, hok, hd, hp => by
    cases hx : A.2.1 p with
    | none => exact absurd hx hp
    | some x =>
      have h26 := hok.1 p x hx
      obtain ⟨-, ρ, -, hρ⟩ := id hok
      obtain ⟨m, z1, z2, z3⟩ := mEPs_ends (ρ := ρ) h26.1 (mEP_ends d) 4 2 (A, 1) (by omega) (by omega) hok hρ hd hp
      have h1 : mEnds _ (mEPz p ((List.range' 0 3).foldl (mECst p) ((List.range' 2 4).foldl (mEPst (mEP d) p) (A, 1)).1)) 1 := mEnds.one h26.1 h26.2 (by rw [z3]; exact hp)
      have := z2.trans h1
      show mEnds A (mEPz p _) ((List.range' 2 4).foldl (mEPst (mEP d) p) (A, 1)).2
      rw [z1, Nat.add_comm]
      exact this
theorem mRw_mono {P : Nat → Option (Nat × Nat × Nat)} : ∀ (d p : Nat) (v : Nat × Nat), mRw P d p = some v → mRw P (d + 1) p = some v
  | 0, _, _, h => by cases h
  | d + 1, p, v, h => by
    unfold mRw at h ⊢
    by_cases h2 : p < 2
    · rw [if_pos h2] at h ⊢; exact h
    · rw [if_neg h2] at h ⊢
      cases hP : P p with
      | none => rw [hP] at h; cases h
      | some x =>
        obtain ⟨o, f, l⟩ := x
        rw [hP] at h
        simp only at h ⊢
        cases hr : mRw P d o with
        | none => rw [hr] at h; cases h
        | some y => rw [mRw_mono d o y hr]; rw [hr] at h; exact h
/-- a list's row and place by those of the list on which it stands -/
theorem mRw_of {P : Nat → Option (Nat × Nat × Nat)} (h : mOk P) {p : Nat} {x : Nat × Nat × Nat} (hx : P p = some x) {r b : Nat} (hr : mRw P zDp x.1 = some (r, b)) : mRw P zDp p = some (r, x.2.1 + b) := by
  have h26 := h.1 p x hx
  obtain ⟨r', b', e⟩ := h.rw' (p := p) (Or.inr (by rw [hx]; exact Option.some_ne_none _))
  have e1 := mRw_mono _ _ _ e
  unfold mRw at e1
  rw [if_neg (by omega), hx] at e1
  obtain ⟨o, f, l⟩ := x
  simp only at e1 hr
  rw [hr] at e1
  rw [e]; exact e1.symm
theorem mRw_sub {P P' : Nat → Option (Nat × Nat × Nat)} (hs : mSub P' P) (hc : mCl P') : ∀ (d p : Nat), (p < 2 ∨ P' p ≠ none) → mRw P' d p = mRw P d p
  | 0, _, _ => rfl
  | d + 1, p, hp => by
    unfold mRw
    by_cases h2 : p < 2
    · rw [if_pos h2, if_pos h2]
    · rw [if_neg h2, if_neg h2]
      cases hP : P' p with
      | none => rcases hp with z | z; · exact absurd z h2
                · exact absurd hP z
      | some x =>
        have e := hs p x hP
        obtain ⟨o, f, l⟩ := x
        rw [e]
        simp only
        rw [mRw_sub hs hc d o (hc p _ hP)]
theorem mAb_refl (P : Nat → Option (Nat × Nat × Nat)) (p : Nat) : mAb P zDp p p = true := by
  show mAb P (7 + 1) p p = true
  unfold mAb; rw [if_pos rfl]
theorem mRo_of {P : Nat → Option (Nat × Nat × Nat)} {p r b : Nat} (h : mRw P zDp p = some (r, b)) : mRo P p = r := by unfold mRo; rw [h]
theorem mES_char {A : mS} {r exc : Nat} (hok : mOk A.2.1) (hex : exc < 2 ∨ A.2.1 exc ≠ none) :
    mEnds A (mES A r exc).1 (mES A r exc).2 ∧ mOk (mES A r exc).1.2.1 ∧ ∀ q x, A.2.1 q = some x → (mES A r exc).1.2.1 q = if mRo A.2.1 q = r ∧ mAb A.2.1 zDp q exc = false then none else some x := by
  have key : ∀ (k j : Nat) (s : mS × Nat), 2 ≤ j → j + k = 6 → mEnds A s.1 s.2 → mOk s.1.2.1 → (∀ q x, A.2.1 q = some x → ¬ (mRo A.2.1 q = r ∧ mAb A.2.1 zDp q exc = false) → s.1.2.1 q = some x) → (∀ q, q < j → (mRo A.2.1 q = r ∧ mAb A.2.1 zDp q exc = false) → s.1.2.1 q = none) →
      mEnds A ((List.range' j k).foldl (mESt r exc) s).1 ((List.range' j k).foldl (mESt r exc) s).2 ∧ mOk ((List.range' j k).foldl (mESt r exc) s).1.2.1 ∧ (∀ q x, A.2.1 q = some x → ¬ (mRo A.2.1 q = r ∧ mAb A.2.1 zDp q exc = false) → ((List.range' j k).foldl (mESt r exc) s).1.2.1 q = some x) ∧ (∀ q, q < 6 → (mRo A.2.1 q = r ∧ mAb A.2.1 zDp q exc = false) → ((List.range' j k).foldl (mESt r exc) s).1.2.1 q = none) := by
    intro k
    induction k with
    | zero =>
      intro j s _ hj h1 h2 h3 h4
      exact ⟨h1, h2, h3, fun q hq => h4 q (by omega)⟩
    | succ k ih =>
      intro j s hj2 hj h1 h2 h3 h4
      rw [List.range'_succ, List.foldl_cons]
      obtain ⟨S, c⟩ := s
      cases hc : S.2.1 j with
      | none =>
        have e : mESt r exc (S, c) j = (S, c) := by unfold mESt; rw [hc]
        rw [e]
        refine ih (j + 1) (S, c) (by omega) (by omega) h1 h2 h3 (fun q hq hcd => ?_)
        by_cases hqj : q = j
        · rw [hqj]; exact hc
        · exact h4 q (by omega) hcd
      | some x =>
        have hA : A.2.1 j = some x := h1.2.1 j x hc
        have e1 : mRo S.2.1 j = mRo A.2.1 j := by
          unfold mRo
          rw [mRw_sub h1.2.1 h2.cl zDp j (Or.inr (by rw [hc]; exact Option.some_ne_none _))]
        obtain ⟨rx, bx, hrx⟩ := hok.rw' hex
        have e2 : mAb S.2.1 zDp j exc = mAb A.2.1 zDp j exc := by
          refine (mAb.congr (P := A.2.1) (P' := S.2.1) zDp exc (fun q hq hq2 => ?_)).1 j
          obtain ⟨y, hy, -⟩ := mAb.closed zDp exc rx bx hrx q hq hq2
          rw [hy]
          exact h3 q y hy (fun z => by rw [hq] at z; cases z.2)
        by_cases hcd : mRo A.2.1 j = r ∧ mAb A.2.1 zDp j exc = false
        · have e : mESt r exc (S, c) j = ((mEP zDp S j).1, c + (mEP zDp S j).2) := by unfold mESt; rw [hc]; simp only; rw [e1, e2]; exact if_pos hcd
          rw [e]
          have hE := mEP_ends zDp S j h2 (h2.deep hj2) (by rw [hc]; exact Option.some_ne_none _)
          have hO := h2.endP (A := S) hj2
          obtain ⟨-, k2, k3⟩ := mEP_cl zDp S j h2.1 h2.cl (h2.deep hj2)
          refine ih (j + 1) ((mEP zDp S j).1, c + (mEP zDp S j).2) (by omega) (by omega) (h1.trans hE) hO (fun q y hq hn => ?_) (fun q hq hq2 => ?_)
          · show (mEP zDp S j).1.2.1 q = some y
            rw [← h3 q y hq hn]
            refine mEP_keep (K := fun q => q < 2 ∨ ∃ x, A.2.1 q = some x ∧ ¬ (mRo A.2.1 q = r ∧ mAb A.2.1 zDp q exc = false)) zDp S j (fun q' hq' h2' => ?_) ?_ q (Or.inr ⟨y, hq, hn⟩) (hok.1 q y hq).1
            · rcases hq' with z | ⟨x', z1, z2⟩
              · omega
              · refine ⟨x', h3 q' x' z1 z2, ?_⟩
                rcases hok.cl q' x' z1 with w | w
                · exact Or.inl w
                · cases hw : A.2.1 x'.1 with
                  | none => exact absurd hw w
                  | some v =>
                    refine Or.inr ⟨v, rfl, fun u => z2 ⟨?_, ?_⟩⟩
                    · obtain ⟨r1, b1, hr1⟩ := hok.rw' (p := x'.1) (Or.inr w)
                      rw [mRo_of (mRw_of hok z1 hr1), ← mRo_of hr1]
                      exact u.1
                    · cases hb : mAb A.2.1 zDp q' exc with
                      | false => rfl
                      | true =>
                        obtain ⟨x2, y1, y2⟩ := mAb.closed zDp exc rx bx hrx q' hb h2'
                        rw [z1] at y1; cases y1
                        rw [y2] at u; exact absurd u.2 (by decide)
            · rintro (z | ⟨x', -, z2⟩)
              · omega
              · exact z2 hcd
          · show (mEP zDp S j).1.2.1 q = none
            by_cases hqj : q = j
            · rw [hqj]; exact k2
            · have h5 := h4 q (by omega) hq2
              cases hz : (mEP zDp S j).1.2.1 q with
              | none => rfl
              | some z => rw [k3 q z hz] at h5; cases h5
        · have e : mESt r exc (S, c) j = (S, c) := by unfold mESt; rw [hc]; simp only; rw [e1, e2]; exact if_neg hcd
          rw [e]
          refine ih (j + 1) (S, c) (by omega) (by omega) h1 h2 h3 (fun q hq hq2 => ?_)
          by_cases hqj : q = j
          · rw [hqj] at hq2; exact absurd hq2 hcd
          · exact h4 q (by omega) hq2
  obtain ⟨a1, a2, a3, a4⟩ := key 4 2 (A, 0) (by omega) rfl mEnds.refl hok (fun q x hq _ => hq) (fun q hq hcd => by
    cases hx : A.2.1 q with
    | none => rfl
    | some x => have := hok.1 q x hx; omega)
  refine ⟨a1, a2, fun q x hq => ?_⟩
  by_cases hcd : mRo A.2.1 q = r ∧ mAb A.2.1 zDp q exc = false
  · rw [if_pos hcd]; exact a4 q (hok.1 q x hq).2 hcd
  · rw [if_neg hcd]; exact a3 q x hq hcd
/-- the end of a part: it, and those that stand on it -/
theorem mEP_char {A : mS} {p : Nat} (hok : mOk A.2.1) (hp : A.2.1 p ≠ none) :
    mEnds A (mEP zDp A p).1 (mEP zDp A p).2 ∧ mOk (mEP zDp A p).1.2.1 ∧ ∀ q x, A.2.1 q = some x → (mEP zDp A p).1.2.1 q = if mAb A.2.1 zDp p q = true then none else some x := by
  cases hx : A.2.1 p with
  | none => exact absurd hx hp
  | some x0 =>
    have h26 := hok.1 p x0 hx
    have hE := mEP_ends zDp A p hok (hok.deep h26.1) hp
    obtain ⟨k1, k2, k3⟩ := mEP_cl zDp A p hok.1 hok.cl (hok.deep h26.1)
    refine ⟨hE, hok.sub k3 k1, fun q x hq => ?_⟩
    obtain ⟨rq, bq, hrq⟩ := hok.rw' (p := q) (Or.inr (by rw [hq]; exact Option.some_ne_none _))
    by_cases hab : mAb A.2.1 zDp p q = true
    · rw [if_pos hab]
      cases hz : (mEP zDp A p).1.2.1 q with
      | none => rfl
      | some z =>
        exfalso
        -- the way from q up stays, so p is there
        have hall : ∀ (d q : Nat), mAb A.2.1 d p q = true → (mEP zDp A p).1.2.1 q ≠ none → False := by
          intro d
          induction d with
          | zero => intro q h; cases h
          | succ d ih =>
            intro q h hn
            unfold mAb at h
            by_cases hpq : p = q
            · rw [← hpq] at hn; exact hn k2
            · rw [if_neg hpq] at h
              by_cases hq2 : q < 2
              · rw [if_pos hq2] at h; cases h
              · rw [if_neg hq2] at h
                cases hy : (mEP zDp A p).1.2.1 q with
                | none => exact hn hy
                | some y =>
                  rw [k3 q y hy] at h
                  rcases k1 q y hy with w | w
                  · cases d with
                    | zero => cases h
                    | succ d =>
                      simp only at h
                      unfold mAb at h
                      rw [if_neg (by omega), if_pos w] at h; cases h
                  · exact ih y.1 h w
        exact hall zDp q hab (by rw [hz]; exact Option.some_ne_none _)
    · rw [if_neg hab, ← hq]
      refine mEP_keep (K := fun q => q < 2 ∨ (A.2.1 q ≠ none ∧ mAb A.2.1 zDp p q = false)) zDp A p (fun q' hq' h2' => ?_) ?_ q (Or.inr ⟨by rw [hq]; exact Option.some_ne_none _, Bool.eq_false_iff.mpr hab⟩) (hok.1 q x hq).1
      · rcases hq' with z | ⟨z1, z2⟩
        · omega
        · cases hy : A.2.1 q' with
          | none => exact absurd hy z1
          | some y =>
            refine ⟨y, rfl, ?_⟩
            rcases hok.cl q' y hy with w | w
            · exact Or.inl w
            · refine Or.inr ⟨w, ?_⟩
              cases hb : mAb A.2.1 zDp p y.1 with
              | false => rfl
              | true =>
                exfalso
                have h1 : mAb A.2.1 (zDp + 1) p q' = true := by
                  unfold mAb
                  by_cases e : p = q'
                  · rw [if_pos e]
                  · rw [if_neg e, if_neg (by omega), hy]; exact hb
                obtain ⟨rq', bq', hrq'⟩ := hok.rw' (p := q') (Or.inr z1)
                have h3 : ∀ (d p q r b : Nat), mRw A.2.1 d q = some (r, b) → mAb A.2.1 (d + 1) p q = mAb A.2.1 d p q := by
                  intro d
                  induction d with
                  | zero => intro p q r b h; cases h
                  | succ d ih =>
                    intro p q r b h
                    unfold mRw at h
                    unfold mAb
                    by_cases e : p = q
                    · rw [if_pos e, if_pos e]
                    · rw [if_neg e, if_neg e]
                      by_cases e2 : q < 2
                      · rw [if_pos e2, if_pos e2]
                      · rw [if_neg e2, if_neg e2]
                        rw [if_neg e2] at h
                        cases hv : A.2.1 q with
                        | none => rfl
                        | some v =>
                          rw [hv] at h
                          obtain ⟨o, f, l⟩ := v
                          simp only at h ⊢
                          cases hr : mRw A.2.1 d o with
                          | none => rw [hr] at h; cases h
                          | some u => exact ih p o u.1 u.2 hr
                rw [h3 zDp p q' rq' bq' hrq', z2] at h1
                cases h1
      · rintro (z | ⟨-, z2⟩)
        · omega
        · rw [mAb_refl] at z2; cases z2
end
section
-- a change of length, told place by place
theorem mAb_va {P : Nat → Option (Nat × Nat × Nat)} {p : Nat} {x : Nat × Nat × Nat} {f l : Nat} (hx : P p = some x) : ∀ (d q e : Nat), mAb (va_up P p (some (x.1, f, l))) d q e = mAb P d q e
  | 0, _, _ => rfl
  | d + 1, q, e => by
    unfold mAb
    by_cases h1 : q = e
    · rw [if_pos h1, if_pos h1]
    · rw [if_neg h1, if_neg h1]
      by_cases h2 : e < 2
      · rw [if_pos h2, if_pos h2]
      · rw [if_neg h2, if_neg h2]
        by_cases h3 : e = p
        · subst h3
          simp only [va_up, if_true, hx]
          exact mAb_va hx d q x.1
        · simp only [va_up, if_neg h3]
          cases P e with
          | none => rfl
          | some y => exact mAb_va hx d q y.1
theorem mAb_rank {P : Nat → Option (Nat × Nat × Nat)} {ρ : Nat → Nat} (hρ : ∀ q x, P q = some x → x.1 < 2 ∨ (P x.1 ≠ none ∧ ρ x.1 < ρ q)) : ∀ (d q e : Nat), 2 ≤ q → mAb P d q e = true → ρ q ≤ ρ e ∧ 2 ≤ e
  | 0, _, _, _, h => by cases h
  | d + 1, q, e, h2, h => by
    unfold mAb at h
    by_cases h1 : q = e
    · subst h1; exact ⟨Nat.le_refl _, h2⟩
    · rw [if_neg h1] at h
      by_cases he : e < 2
      · rw [if_pos he] at h; cases h
      · rw [if_neg he] at h
        cases hy : P e with
        | none => rw [hy] at h; cases h
        | some y =>
          rw [hy] at h
          have ih := mAb_rank hρ d q y.1 h2 h
          rcases hρ e y hy with z | z
          · omega
          · exact ⟨by omega, by omega⟩
theorem mChL_str {z : Int} : ∀ (d : Nat) (A : mS) (p : Nat), (∀ d' q, mRw (mChL z d A p).2.1 d' q = mRw A.2.1 d' q) ∧ (∀ d' q e, mAb (mChL z d A p).2.1 d' q e = mAb A.2.1 d' q e) ∧ (∀ q, A.2.1 q = none → (mChL z d A p).2.1 q = none) ∧ (mOk A.2.1 → mOk (mChL z d A p).2.1)
  | 0, _, _ => ⟨fun _ _ => rfl, fun _ _ _ => rfl, fun _ h => h, fun h => h⟩
  | d + 1, A, p => by
    unfold mChL
    by_cases h2 : p < 2
    · rw [if_pos h2]; exact ⟨fun _ _ => rfl, fun _ _ _ => rfl, fun _ h => h, fun h => h⟩
    · rw [if_neg h2]
      cases hx : A.2.1 p with
      | none => exact ⟨fun _ _ => rfl, fun _ _ _ => rfl, fun _ h => h, fun h => h⟩
      | some x =>
        obtain ⟨a1, a2, a3, a4⟩ := mChL_str (z := z) d (A.1, va_up A.2.1 p (some (x.1, x.2.1, ((x.2.2 : Int) + z).toNat)), A.2.2.1, A.2.2.2) x.1
        refine ⟨fun d' q => (a1 d' q).trans (mRw_va hx d' q), fun d' q e => (a2 d' q e).trans (mAb_va hx d' q e), fun q hq => a3 q ?_, fun h => a4 (h.va hx)⟩
        show va_up A.2.1 p _ q = none
        simp only [va_up]
        by_cases e : q = p
        · rw [e, hx] at hq; cases hq
        · rw [if_neg e]; exact hq
theorem mChL_char {z : Int} {ρ : Nat → Nat} : ∀ (d : Nat) (A : mS) (p r b : Nat), mRw A.2.1 d p = some (r, b) → (∀ q x, A.2.1 q = some x → x.1 < 2 ∨ (A.2.1 x.1 ≠ none ∧ ρ x.1 < ρ q)) → ∀ q x, 2 ≤ q → A.2.1 q = some x →
    (mChL z d A p).2.1 q = if mAb A.2.1 d q p = true then some (x.1, x.2.1, ((x.2.2 : Int) + z).toNat) else some x
  | 0, _, _, _, _, h, _, _, _, _, _ => by cases h
  | d + 1, A, p, r, b, h, hρ, q, x, hq2, hx => by
    unfold mRw at h
    unfold mChL mAb
    by_cases h2 : p < 2
    · have hqp : ¬ q = p := by omega
      simp only [if_pos h2, if_neg hqp]
      exact hx
    · rw [if_neg h2] at h
      rw [if_neg h2, if_neg h2]
      cases hy : A.2.1 p with
      | none => rw [hy] at h; cases h
      | some y =>
        rw [hy] at h
        obtain ⟨o, f, l⟩ := y
        simp only at h ⊢
        cases hr : mRw A.2.1 d o with
        | none => rw [hr] at h; cases h
        | some v =>
          obtain ⟨r', b'⟩ := v
          have hr' : mRw (va_up A.2.1 p (some (o, f, ((l : Int) + z).toNat))) d o = some (r', b') := by
            have := mRw_va (P := A.2.1) (p := p) (x := (o, f, l)) (l := ((l : Int) + z).toNat) hy d o
            rw [← hr]; exact this
          have hρ' : ∀ q x, va_up A.2.1 p (some (o, f, ((l : Int) + z).toNat)) q = some x → x.1 < 2 ∨ (va_up A.2.1 p (some (o, f, ((l : Int) + z).toNat)) x.1 ≠ none ∧ ρ x.1 < ρ q) := by
            intro q1 x1 h1
            have hz : x1.1 < 2 ∨ (A.2.1 x1.1 ≠ none ∧ ρ x1.1 < ρ q1) := by
              simp only [va_up] at h1
              by_cases e : q1 = p
              · rw [if_pos e] at h1; cases h1; rw [e]; exact hρ p (o, f, l) hy
              · rw [if_neg e] at h1; exact hρ q1 x1 h1
            refine hz.imp_right (fun k => ⟨?_, k.2⟩)
            simp only [va_up]
            by_cases e : x1.1 = p
            · rw [if_pos e]; exact Option.some_ne_none _
            · rw [if_neg e]; exact k.1
          have ih := mChL_char (z := z) (ρ := ρ) d (A.1, va_up A.2.1 p (some (o, f, ((l : Int) + z).toNat)), A.2.2.1, A.2.2.2) o r' b' hr' hρ'
          have hab : ∀ q, mAb (va_up A.2.1 p (some (o, f, ((l : Int) + z).toNat))) d q o = mAb A.2.1 d q o := fun q => mAb_va (x := (o, f, l)) hy d q o
          by_cases hqp : q = p
          · subst hqp
            have e0 : x = (o, f, l) := by rw [hx] at hy; cases hy; rfl
            subst e0
            have h5 := ih q (o, f, ((l : Int) + z).toNat) hq2 (by simp [va_up])
            rw [if_pos rfl, if_pos rfl, h5]
            have hno : mAb A.2.1 d q o = false := by
              cases hb : mAb A.2.1 d q o with
              | false => rfl
              | true =>
                have := mAb_rank hρ d q o hq2 hb
                rcases hρ q _ hx with z | z
                · simp only at z; omega
                · have := z.2; simp only at this; omega
            simp only [hab q, hno]
            rfl
          · have h5 := ih q x hq2 (by simp [va_up, hqp, hx])
            rw [if_neg hqp, h5]
            simp only [hab q]
end
section
def mCf (P : Nat → Option (Nat × Nat × Nat)) (r : Nat) (exc : Int32) (C : Nat → Option (Nat × Nat × Int32 × Int32)) (c : Nat) : Option (Nat × Nat × Int32 × Int32) :=
  if nI c = exc then C c else match C c with
  | some x => if mRo P x.1 = r then (if x.1 < 2 then some (x.1, x.2.1, x.2.2.1, nI 1) else none) else some x
  | none => none
theorem va_up_id {α : Type} (f : Nat → α) (c : Nat) : va_up f c (f c) = f := by
  funext j
  simp only [va_up]
  by_cases e : j = c
  · rw [if_pos e, e]
  · rw [if_neg e]
theorem mCC_one {r : Nat} {exc : Int32} (A : mS) {c : Nat} (hc : c < 3) : (mCC r exc A c).1 = A.1 ∧ (mCC r exc A c).2.1 = A.2.1 ∧ (mCC r exc A c).2.2.1 = va_up A.2.2.1 c (mCf A.2.1 r exc A.2.2.1 c) ∧ (∀ j, j ≠ 3 → (mCC r exc A c).2.2.2 j = A.2.2.2 j) ∧
    ∃ k, (mCC r exc A c).2.2.2 3 = A.2.2.2 3 + nI k ∧ k + mKk (mCC r exc A c).2.2.1 = mKk A.2.2.1 := by
  have no : ∀ v, v = A.2.2.1 c → A.1 = A.1 ∧ A.2.1 = A.2.1 ∧ A.2.2.1 = va_up A.2.2.1 c v ∧ (∀ j, j ≠ 3 → A.2.2.2 j = A.2.2.2 j) ∧ ∃ k, A.2.2.2 3 = A.2.2.2 3 + nI k ∧ k + mKk A.2.2.1 = mKk A.2.2.1 :=
    fun v hv => ⟨rfl, rfl, by rw [hv, va_up_id], fun _ _ => rfl, 0, (add_nI0 _).symm, Nat.zero_add _⟩
  unfold mCC mCf
  by_cases he : nI c = exc
  · rw [if_pos he, if_pos he]; exact no _ rfl
  · rw [if_neg he, if_neg he]
    cases hx : A.2.2.1 c with
    | none => exact no _ hx.symm
    | some x =>
      simp only
      by_cases hr : mRo A.2.1 x.1 = r
      · rw [if_pos hr, if_pos hr]
        by_cases h2 : x.1 < 2
        · rw [if_pos h2, if_pos h2]
          exact ⟨rfl, rfl, rfl, fun _ _ => rfl, 0, (add_nI0 _).symm, by rw [Nat.zero_add]; exact mKk_set (by rw [hx]; exact Option.some_ne_none _)⟩
        · rw [if_neg h2, if_neg h2]
          exact ⟨rfl, rfl, rfl, fun j hj => if_neg hj, 1, rfl, mKk_up hc (by rw [hx]; exact Option.some_ne_none _)⟩
      · rw [if_neg hr, if_neg hr]; exact no _ hx.symm
theorem mCC_all {r : Nat} {exc : Int32} (A : mS) : ((List.range' 0 3).foldl (mCC r exc) A).1 = A.1 ∧ ((List.range' 0 3).foldl (mCC r exc) A).2.1 = A.2.1 ∧ (∀ c, ((List.range' 0 3).foldl (mCC r exc) A).2.2.1 c = if c < 3 then mCf A.2.1 r exc A.2.2.1 c else A.2.2.1 c) ∧ (∀ j, j ≠ 3 → ((List.range' 0 3).foldl (mCC r exc) A).2.2.2 j = A.2.2.2 j) ∧
    ∃ k, ((List.range' 0 3).foldl (mCC r exc) A).2.2.2 3 = A.2.2.2 3 + nI k ∧ k + mKk ((List.range' 0 3).foldl (mCC r exc) A).2.2.1 = mKk A.2.2.1 := by
  show (mCC r exc (mCC r exc (mCC r exc A 0) 1) 2).1 = A.1 ∧ (mCC r exc (mCC r exc (mCC r exc A 0) 1) 2).2.1 = A.2.1 ∧ (∀ c, (mCC r exc (mCC r exc (mCC r exc A 0) 1) 2).2.2.1 c = if c < 3 then mCf A.2.1 r exc A.2.2.1 c else A.2.2.1 c) ∧ (∀ j, j ≠ 3 → (mCC r exc (mCC r exc (mCC r exc A 0) 1) 2).2.2.2 j = A.2.2.2 j) ∧
    ∃ k, (mCC r exc (mCC r exc (mCC r exc A 0) 1) 2).2.2.2 3 = A.2.2.2 3 + nI k ∧ k + mKk (mCC r exc (mCC r exc (mCC r exc A 0) 1) 2).2.2.1 = mKk A.2.2.1
  obtain ⟨a1, a2, a3, a4, ka, a5, a6⟩ := mCC_one (r := r) (exc := exc) A (c := 0) (by omega)
  obtain ⟨b1, b2, b3, b4, kb, b5, b6⟩ := mCC_one (r := r) (exc := exc) (mCC r exc A 0) (c := 1) (by omega)
  obtain ⟨c1, c2, c3, c4, kc, c5, c6⟩ := mCC_one (r := r) (exc := exc) (mCC r exc (mCC r exc A 0) 1) (c := 2) (by omega)
  have cf : ∀ (C : Nat → Option (Nat × Nat × Int32 × Int32)) (v : Option (Nat × Nat × Int32 × Int32)) (i j : Nat), j ≠ i → mCf A.2.1 r exc (va_up C i v) j = mCf A.2.1 r exc C j := by
    intro C v i j hj
    have e : va_up C i v j = C j := by simp [va_up, hj]
    unfold mCf; rw [e]
  refine ⟨c1.trans (b1.trans a1), c2.trans (b2.trans a2), fun c => ?_, fun j hj => (c4 j hj).trans ((b4 j hj).trans (a4 j hj)), ka + kb + kc, by rw [c5, b5, a5, add_nI, add_nI, Nat.add_assoc], by omega⟩
  rw [c3, b3, a3, b2, a2, cf _ _ 1 2 (by omega), cf _ _ 0 2 (by omega), cf _ _ 0 1 (by omega)]
  simp only [va_up]
  by_cases h0 : c = 0
  · subst h0; simp
  · by_cases h1 : c = 1
    · subst h1; simp
    · by_cases h2 : c = 2
      · subst h2; simp
      · rw [if_neg h2, if_neg h1, if_neg h0, if_neg (by omega)]
end
section
/-- all that a change of length does -/
def mChd (A A' : mS) (p r : Nat) (z : Int) (exc : Int32) : Prop :=
  A'.1 = A.1 ∧ mOk A'.2.1 ∧ (∀ q, A.2.1 q = none → A'.2.1 q = none) ∧
  (∀ q x, A.2.1 q = some x → A'.2.1 q = if mAb A.2.1 zDp q p = true then some (x.1, x.2.1, ((x.2.2 : Int) + z).toNat) else if mRo A.2.1 q = r then none else some x) ∧
  (∀ c, c < 3 → A'.2.2.1 c = mCf A.2.1 r exc A.2.2.1 c) ∧ (∀ c, 3 ≤ c → A'.2.2.1 c = A.2.2.1 c) ∧ (∀ j, j ≠ 2 → j ≠ 3 → A'.2.2.2 j = A.2.2.2 j) ∧
  (∃ n, A'.2.2.2 2 = A.2.2.2 2 + nI n ∧ n + mPc A'.2.1 = mPc A.2.1) ∧ ∃ k, A'.2.2.2 3 = A.2.2.2 3 + nI k ∧ k + mKk A'.2.2.1 = mKk A.2.2.1
theorem mPc_cong {P P' : Nat → Option (Nat × Nat × Nat)} (h : ∀ q, P q = none ↔ P' q = none) : mPc P = mPc P' := by
  have : ∀ q, o1 (P q) = o1 (P' q) := by
    intro q
    have := h q
    cases h1 : P q <;> cases h2 : P' q <;> simp [h1, h2] at this <;> rfl
  simp only [mPc, this]
theorem mChange_char {A : mS} {p r b : Nat} {z : Int} {exc : Int32} (hok : mOk A.2.1) (hrw : mRw A.2.1 zDp p = some (r, b)) (hpv : p < 2 ∨ A.2.1 p ≠ none) (hz : z ≠ 0)
    (hcv : ∀ c x, A.2.2.1 c = some x → c < 3 ∧ (x.1 < 2 ∨ A.2.1 x.1 ≠ none) ∧ (nI c = exc → x.1 = p)) : mChd A (mChange A p z exc) p r z exc := by
  obtain ⟨s1, s2, s3, s4⟩ := mChL_str (z := z) zDp A p
  have sC := mChL_C (z := z) zDp A p
  obtain ⟨-, ρ, -, hρ⟩ := id hok
  have sP := mChL_char (z := z) (ρ := ρ) zDp A p r b hrw hρ
  have hRo : mRo A.2.1 p = r := mRo_of hrw
  have e0 : mChange A p z exc = (mES ((List.range' 0 3).foldl (mCC r exc) (mChL z zDp A p)) r p).1 := by
    unfold mChange; rw [if_neg hz, hRo]
  rw [e0]
  generalize mChL z zDp A p = A1 at s1 s2 s3 s4 sC sP ⊢
  have hok1 := s4 hok
  obtain ⟨b1, b2, b3, b4, kb, b5, b6⟩ := mCC_all (r := r) (exc := exc) A1
  generalize (List.range' 0 3).foldl (mCC r exc) A1 = B at b1 b2 b3 b4 b5 b6 ⊢
  have there : ∀ q, A.2.1 q = none ↔ A1.2.1 q = none := by
    intro q
    refine ⟨s3 q, fun h => ?_⟩
    cases hx : A.2.1 q with
    | none => rfl
    | some x =>
      have := sP q x (hok.1 q x hx).1 hx
      rw [h] at this
      split at this <;> cases this
  obtain ⟨⟨d1, d2, d3, d4, d5, d6, d7, kd, d8, d9⟩, e2, e3⟩ := mES_char (A := B) (r := r) (exc := p) (by rw [b2]; exact hok1) (hpv.imp_right (fun k => by rw [b2]; exact fun q => k ((there p).mpr q)))
  generalize hE : mES B r p = E at d1 d2 d3 d4 d5 d6 d7 d8 d9 e2 e3 ⊢
  have ro : ∀ q, mRo B.2.1 q = mRo A.2.1 q := fun q => by unfold mRo; rw [b2, s1]
  have ab : ∀ q, mAb B.2.1 zDp q p = mAb A.2.1 zDp q p := fun q => by rw [b2, s2]
  have hcd : ∀ q x, A.2.1 q = some x → E.1.2.1 q = if mAb A.2.1 zDp q p = true then some (x.1, x.2.1, ((x.2.2 : Int) + z).toNat) else if mRo A.2.1 q = r then none else some x := by
    intro q x hx
    have h2 := (hok.1 q x hx).1
    have h1 := sP q x h2 hx
    by_cases hab : mAb A.2.1 zDp q p = true
    · rw [if_pos hab] at h1 ⊢
      rw [e3 q _ (by rw [b2]; exact h1), if_neg (fun k => by rw [ab, hab] at k; cases k.2)]
    · rw [if_neg hab] at h1 ⊢
      rw [e3 q _ (by rw [b2]; exact h1), ro, ab]
      have hf : mAb A.2.1 zDp q p = false := Bool.eq_false_iff.mpr hab
      simp only [hf, and_true]
  refine ⟨d1.trans (b1.trans sC.2), e2, fun q hq => ?_, hcd, fun c hc => ?_, fun c hc => ?_, fun j h2 h3 => ?_, ⟨E.2, ?_, ?_⟩, kb + kd, ?_, ?_⟩
  · have : B.2.1 q = none := by rw [b2]; exact s3 q hq
    cases hz : E.1.2.1 q with
    | none => rfl
    | some y => rw [d2 q y hz] at this; cases this
  · have hB : B.2.2.1 c = mCf A.2.1 r exc A.2.2.1 c := by
      rw [b3 c, if_pos hc]
      have e1 : mCf A1.2.1 r exc A1.2.2.1 c = mCf A.2.1 r exc A.2.2.1 c := by
        have e1 : A1.2.2.1 = A.2.2.1 := congrArg Prod.fst sC.1
        have e2 : mRo A1.2.1 = mRo A.2.1 := by funext q; unfold mRo; rw [s1]
        unfold mCf; rw [e1, e2]
      exact e1
    rcases d3 c with k | ⟨-, x, f1, f2, f3⟩
    · exact k.trans hB
    · exfalso
      rw [hB] at f1
      unfold mCf at f1
      by_cases he : nI c = exc
      · rw [if_pos he] at f1
        have hxp := (hcv c x f1).2.2 he
        rw [hxp] at f3 f2
        rcases hpv with w | w
        · omega
        · cases hy : A.2.1 p with
          | none => exact w hy
          | some y =>
            have := hcd p y hy
            rw [if_pos (mAb_refl _ _), f3] at this
            cases this
      · rw [if_neg he] at f1
        cases hx : A.2.2.1 c with
        | none => rw [hx] at f1; cases f1
        | some x' =>
          rw [hx] at f1
          simp only at f1
          by_cases hr : mRo A.2.1 x'.1 = r
          · rw [if_pos hr] at f1
            by_cases h2 : x'.1 < 2
            · rw [if_pos h2] at f1; cases f1; simp only at f2; omega
            · rw [if_neg h2] at f1; cases f1
          · rw [if_neg hr] at f1
            rw [← Option.some.inj f1] at f2 f3
            rcases (hcv c _ hx).2.1 with w | w
            · omega
            · cases hy : A.2.1 x'.1 with
              | none => exact w hy
              | some y =>
                have h7 := hcd x'.1 y hy
                rw [f3] at h7
                rw [if_neg hr] at h7
                split at h7 <;> cases h7
  · have hB : B.2.2.1 c = A.2.2.1 c := by
      rw [b3 c, if_neg (by omega)]
      exact congrFun (congrArg Prod.fst sC.1) c
    rcases d3 c with k | ⟨-, x, f1, -⟩
    · exact k.trans hB
    · rw [hB] at f1
      have := (hcv c x f1).1
      omega
  · rw [d5 j h2 h3, b4 j h3]; exact congrFun (congrArg Prod.snd sC.1) j
  · rw [d6, b4 2 (by omega), congrFun (congrArg Prod.snd sC.1) 2]
  · rw [d7, b2]; exact (mPc_cong there).symm
  · rw [d8, b5, congrFun (congrArg Prod.snd sC.1) 3, add_nI]
  · have : A1.2.2.1 = A.2.2.1 := congrArg Prod.fst sC.1
    rw [this] at b6; omega
end
section
-- the class: its small methods over its cells
def cArr (σ : cS) (k : Nat) (f : Nat → Int32) : cS := (fun q => if q = k then f else σ.1 q, σ.2)
section Cls
variable {b : Nat} {σ : cS} {G : gH}
theorem cSet_arr {k i : Nat} {x : Int32} : cSet σ k i x = cArr σ k (upd (σ.1 k) i x) := rfl
theorem cArr_at {k : Nat} {f : Nat → Int32} : (cArr σ k f).1 k = f := if_pos rfl
theorem cArr_ne {k j : Nat} {f : Nat → Int32} (h : j ≠ k) : (cArr σ k f).1 j = σ.1 j := if_neg h
theorem cArr_id {k : Nat} : cArr σ k (σ.1 k) = σ := by
  refine Prod.ext ?_ rfl
  funext q
  show (if q = k then σ.1 k else σ.1 q) = σ.1 q
  by_cases e : q = k
  · rw [if_pos e, e]
  · rw [if_neg e]
theorem cArr_cArr {k : Nat} {f g : Nat → Int32} : cArr (cArr σ k f) k g = cArr σ k g := by
  refine Prod.ext ?_ rfl
  funext q
  show (if q = k then g else if q = k then f else σ.1 q) = if q = k then g else σ.1 q
  by_cases e : q = k
  · rw [if_pos e, if_pos e]
  · rw [if_neg e, if_neg e, if_neg e]
theorem cSetI_at {k : Nat} {x : Int32} : (cSetI σ k x).2 k = x := if_pos rfl
theorem cSetI_ne {k j : Nat} {x : Int32} (h : j ≠ k) : (cSetI σ k x).2 j = σ.2 j := if_neg h
theorem cSetI_id {k : Nat} : cSetI σ k (σ.2 k) = σ := by
  refine Prod.ext rfl ?_
  funext q
  show (if q = k then σ.2 k else σ.2 q) = σ.2 q
  by_cases e : q = k
  · rw [if_pos e, e]
  · rw [if_neg e]
theorem cSetI_arr {k j : Nat} {x : Int32} {f : Nat → Int32} : cSetI (cArr σ k f) j x = cArr (cSetI σ j x) k f := rfl
theorem cSetI_cSetI {k : Nat} {x y : Int32} : cSetI (cSetI σ k x) k y = cSetI σ k y := by
  refine Prod.ext rfl ?_
  funext q
  show (if q = k then y else if q = k then x else σ.2 q) = if q = k then y else σ.2 q
  by_cases e : q = k
  · rw [if_pos e, if_pos e]
  · rw [if_neg e, if_neg e, if_neg e]
theorem mB_if {α : Type} {p : Bool} {x y : α} : (if mB p = 0 then x else y) = if p = true then y else x := by
  cases p
  · rw [if_pos (show mB false = 0 from rfl), if_neg (by decide)]
  · rw [if_neg (show ¬ mB true = 0 by decide), if_pos rfl]
theorem rI_ite {c : Prop} [Decidable c] {x y : Int32} : (if c then rI x G else rI y G) = rI (if c then x else y) G := by split <;> rfl
theorem y_isThere {x : Int32} {t : Bool} (h : rd 6 (σ.1 1) x = -1 ↔ t = false) : f_I_isThere (cPut b σ G) (b + 1) x = rI (mB t) (cPut b σ G) := by
  simp only [f_I_isThere, c_ob_0, c_fa_0_0, c_fa_0_1, c_fi_0_2, c_put_0_2, c_fi_0_3, c_put_0_3, c_fi_0_4, c_put_0_4, c_ob_1, c_fa_1_0, c_fa_1_1, c_fa_1_2, c_fa_1_3, c_fa_1_4, c_fa_1_5, c_fi_1_6, c_put_1_6, c_ob_2, c_fa_2_0, c_ob_4, c_fa_4_0, c_ob_6, c_fa_6_0, c_ob_8, c_fa_8_0, c_ob_10, c_fa_10_0, c_ob_12, c_fa_12_0, c_ob_14, c_fa_14_0, c_fa_14_1, c_fa_14_2, c_fa_14_3, c_fi_14_4, c_put_14_4, c_ob_15, c_fa_15_0, c_ob_17, c_fa_17_0, c_ob_19, c_fa_19_0, c_ob_21, c_fa_21_0, c_len_0, c_ld_0, c_st_0, c_rd_0, c_wr_0, c_len_1, c_ld_1, c_st_1, c_rd_1, c_wr_1, c_len_2, c_ld_2, c_st_2, c_rd_2, c_wr_2, c_len_3, c_ld_3, c_st_3, c_rd_3, c_wr_3, c_len_4, c_ld_4, c_st_4, c_rd_4, c_wr_4, c_len_5, c_ld_5, c_st_5, c_rd_5, c_wr_5, c_len_6, c_ld_6, c_st_6, c_rd_6, c_wr_6, c_len_7, c_ld_7, c_st_7, c_rd_7, c_wr_7, c_len_8, c_ld_8, c_st_8, c_rd_8, c_wr_8, c_len_9, c_ld_9, c_st_9, c_rd_9, c_wr_9, bI_rI, bL_rL, bA_rA, bV_rV, bI_th, bL_th, bA_th, bV_th, rZ_0, rZ_1]
  cases t
  · rw [if_pos (h.mpr rfl)]; rfl
  · rw [if_neg (fun q => by cases h.mp q)]; rfl
theorem y_lengthOf {x : Int32} : f_I_lengthOf (cPut b σ G) (b + 1) x = rI (rd 6 (σ.1 1) x) (cPut b σ G) := by simp only [f_I_lengthOf, c_ob_0, c_fa_0_0, c_fa_0_1, c_fi_0_2, c_put_0_2, c_fi_0_3, c_put_0_3, c_fi_0_4, c_put_0_4, c_ob_1, c_fa_1_0, c_fa_1_1, c_fa_1_2, c_fa_1_3, c_fa_1_4, c_fa_1_5, c_fi_1_6, c_put_1_6, c_ob_2, c_fa_2_0, c_ob_4, c_fa_4_0, c_ob_6, c_fa_6_0, c_ob_8, c_fa_8_0, c_ob_10, c_fa_10_0, c_ob_12, c_fa_12_0, c_ob_14, c_fa_14_0, c_fa_14_1, c_fa_14_2, c_fa_14_3, c_fi_14_4, c_put_14_4, c_ob_15, c_fa_15_0, c_ob_17, c_fa_17_0, c_ob_19, c_fa_19_0, c_ob_21, c_fa_21_0, c_len_0, c_ld_0, c_st_0, c_rd_0, c_wr_0, c_len_1, c_ld_1, c_st_1, c_rd_1, c_wr_1, c_len_2, c_ld_2, c_st_2, c_rd_2, c_wr_2, c_len_3, c_ld_3, c_st_3, c_rd_3, c_wr_3, c_len_4, c_ld_4, c_st_4, c_rd_4, c_wr_4, c_len_5, c_ld_5, c_st_5, c_rd_5, c_wr_5, c_len_6, c_ld_6, c_st_6, c_rd_6, c_wr_6, c_len_7, c_ld_7, c_st_7, c_rd_7, c_wr_7, c_len_8, c_ld_8, c_st_8, c_rd_8, c_wr_8, c_len_9, c_ld_9, c_st_9, c_rd_9, c_wr_9, bI_rI, bL_rL, bA_rA, bV_rV, bI_th, bL_th, bA_th, bV_th, rZ_0, rZ_1]
theorem y_rowOf {x : Int32} : f_I_rowOf (cPut b σ G) (b + 1) x = rI (rd 6 (σ.1 3) x) (cPut b σ G) := by simp only [f_I_rowOf, c_ob_0, c_fa_0_0, c_fa_0_1, c_fi_0_2, c_put_0_2, c_fi_0_3, c_put_0_3, c_fi_0_4, c_put_0_4, c_ob_1, c_fa_1_0, c_fa_1_1, c_fa_1_2, c_fa_1_3, c_fa_1_4, c_fa_1_5, c_fi_1_6, c_put_1_6, c_ob_2, c_fa_2_0, c_ob_4, c_fa_4_0, c_ob_6, c_fa_6_0, c_ob_8, c_fa_8_0, c_ob_10, c_fa_10_0, c_ob_12, c_fa_12_0, c_ob_14, c_fa_14_0, c_fa_14_1, c_fa_14_2, c_fa_14_3, c_fi_14_4, c_put_14_4, c_ob_15, c_fa_15_0, c_ob_17, c_fa_17_0, c_ob_19, c_fa_19_0, c_ob_21, c_fa_21_0, c_len_0, c_ld_0, c_st_0, c_rd_0, c_wr_0, c_len_1, c_ld_1, c_st_1, c_rd_1, c_wr_1, c_len_2, c_ld_2, c_st_2, c_rd_2, c_wr_2, c_len_3, c_ld_3, c_st_3, c_rd_3, c_wr_3, c_len_4, c_ld_4, c_st_4, c_rd_4, c_wr_4, c_len_5, c_ld_5, c_st_5, c_rd_5, c_wr_5, c_len_6, c_ld_6, c_st_6, c_rd_6, c_wr_6, c_len_7, c_ld_7, c_st_7, c_rd_7, c_wr_7, c_len_8, c_ld_8, c_st_8, c_rd_8, c_wr_8, c_len_9, c_ld_9, c_st_9, c_rd_9, c_wr_9, bI_rI, bL_rL, bA_rA, bV_rV, bI_th, bL_th, bA_th, bV_th, rZ_0, rZ_1]
theorem y_cell {p r s i : Nat} (hp : p < 6) (h3 : σ.1 3 p = nI r) (h4 : σ.1 4 p = nI s) : f_I_cellOf (cPut b σ G) (b + 1) (nI p) (nI i) = rI (nI (31 * r + s + i)) (cPut b σ G) := by
  simp only [f_I_cellOf, c_ob_0, c_fa_0_0, c_fa_0_1, c_fi_0_2, c_put_0_2, c_fi_0_3, c_put_0_3, c_fi_0_4, c_put_0_4, c_ob_1, c_fa_1_0, c_fa_1_1, c_fa_1_2, c_fa_1_3, c_fa_1_4, c_fa_1_5, c_fi_1_6, c_put_1_6, c_ob_2, c_fa_2_0, c_ob_4, c_fa_4_0, c_ob_6, c_fa_6_0, c_ob_8, c_fa_8_0, c_ob_10, c_fa_10_0, c_ob_12, c_fa_12_0, c_ob_14, c_fa_14_0, c_fa_14_1, c_fa_14_2, c_fa_14_3, c_fi_14_4, c_put_14_4, c_ob_15, c_fa_15_0, c_ob_17, c_fa_17_0, c_ob_19, c_fa_19_0, c_ob_21, c_fa_21_0, c_len_0, c_ld_0, c_st_0, c_rd_0, c_wr_0, c_len_1, c_ld_1, c_st_1, c_rd_1, c_wr_1, c_len_2, c_ld_2, c_st_2, c_rd_2, c_wr_2, c_len_3, c_ld_3, c_st_3, c_rd_3, c_wr_3, c_len_4, c_ld_4, c_st_4, c_rd_4, c_wr_4, c_len_5, c_ld_5, c_st_5, c_rd_5, c_wr_5, c_len_6, c_ld_6, c_st_6, c_rd_6, c_wr_6, c_len_7, c_ld_7, c_st_7, c_rd_7, c_wr_7, c_len_8, c_ld_8, c_st_8, c_rd_8, c_wr_8, c_len_9, c_ld_9, c_st_9, c_rd_9, c_wr_9, bI_rI, bL_rL, bA_rA, bV_rV, bI_th, bL_th, bA_th, bV_th, rZ_0, rZ_1]
  rw [rd_nI hp (by decide), rd_nI hp (by decide), h3, h4, nI_mul, nI_add, nI_add, Nat.mul_comm r]
theorem y_thing {p r s i : Nat} (hp : p < 6) (h3 : σ.1 3 p = nI r) (h4 : σ.1 4 p = nI s) (hi : 31 * r + s + i < 62) : f_I_thingAt (cPut b σ G) (b + 1) (nI p) (nI i) = rI (σ.1 0 (31 * r + s + i)) (cPut b σ G) := by
  simp only [f_I_thingAt, c_ob_0, c_fa_0_0, c_fa_0_1, c_fi_0_2, c_put_0_2, c_fi_0_3, c_put_0_3, c_fi_0_4, c_put_0_4, c_ob_1, c_fa_1_0, c_fa_1_1, c_fa_1_2, c_fa_1_3, c_fa_1_4, c_fa_1_5, c_fi_1_6, c_put_1_6, c_ob_2, c_fa_2_0, c_ob_4, c_fa_4_0, c_ob_6, c_fa_6_0, c_ob_8, c_fa_8_0, c_ob_10, c_fa_10_0, c_ob_12, c_fa_12_0, c_ob_14, c_fa_14_0, c_fa_14_1, c_fa_14_2, c_fa_14_3, c_fi_14_4, c_put_14_4, c_ob_15, c_fa_15_0, c_ob_17, c_fa_17_0, c_ob_19, c_fa_19_0, c_ob_21, c_fa_21_0, c_len_0, c_ld_0, c_st_0, c_rd_0, c_wr_0, c_len_1, c_ld_1, c_st_1, c_rd_1, c_wr_1, c_len_2, c_ld_2, c_st_2, c_rd_2, c_wr_2, c_len_3, c_ld_3, c_st_3, c_rd_3, c_wr_3, c_len_4, c_ld_4, c_st_4, c_rd_4, c_wr_4, c_len_5, c_ld_5, c_st_5, c_rd_5, c_wr_5, c_len_6, c_ld_6, c_st_6, c_rd_6, c_wr_6, c_len_7, c_ld_7, c_st_7, c_rd_7, c_wr_7, c_len_8, c_ld_8, c_st_8, c_rd_8, c_wr_8, c_len_9, c_ld_9, c_st_9, c_rd_9, c_wr_9, bI_rI, bL_rL, bA_rA, bV_rV, bI_th, bL_th, bA_th, bV_th, rZ_0, rZ_1, y_cell hp h3 h4]
  rw [rd_nI hi (by decide)]
theorem y_key {p r s i : Nat} (hp : p < 6) (h3 : σ.1 3 p = nI r) (h4 : σ.1 4 p = nI s) (hi : 31 * r + s + i < 62) : f_I_keyAt (cPut b σ G) (b + 1) (nI p) (nI i) = rI (σ.1 0 (31 * r + s + i) &&& nI 31) (cPut b σ G) := by
  simp only [f_I_keyAt, f_X_keyOf, c_ob_0, c_fa_0_0, c_fa_0_1, c_fi_0_2, c_put_0_2, c_fi_0_3, c_put_0_3, c_fi_0_4, c_put_0_4, c_ob_1, c_fa_1_0, c_fa_1_1, c_fa_1_2, c_fa_1_3, c_fa_1_4, c_fa_1_5, c_fi_1_6, c_put_1_6, c_ob_2, c_fa_2_0, c_ob_4, c_fa_4_0, c_ob_6, c_fa_6_0, c_ob_8, c_fa_8_0, c_ob_10, c_fa_10_0, c_ob_12, c_fa_12_0, c_ob_14, c_fa_14_0, c_fa_14_1, c_fa_14_2, c_fa_14_3, c_fi_14_4, c_put_14_4, c_ob_15, c_fa_15_0, c_ob_17, c_fa_17_0, c_ob_19, c_fa_19_0, c_ob_21, c_fa_21_0, c_len_0, c_ld_0, c_st_0, c_rd_0, c_wr_0, c_len_1, c_ld_1, c_st_1, c_rd_1, c_wr_1, c_len_2, c_ld_2, c_st_2, c_rd_2, c_wr_2, c_len_3, c_ld_3, c_st_3, c_rd_3, c_wr_3, c_len_4, c_ld_4, c_st_4, c_rd_4, c_wr_4, c_len_5, c_ld_5, c_st_5, c_rd_5, c_wr_5, c_len_6, c_ld_6, c_st_6, c_rd_6, c_wr_6, c_len_7, c_ld_7, c_st_7, c_rd_7, c_wr_7, c_len_8, c_ld_8, c_st_8, c_rd_8, c_wr_8, c_len_9, c_ld_9, c_st_9, c_rd_9, c_wr_9, bI_rI, bL_rL, bA_rA, bV_rV, bI_th, bL_th, bA_th, bV_th, rZ_0, rZ_1, y_cell hp h3 h4]
  rw [rd_nI hi (by decide)]
theorem y_write {p r s i : Nat} {x : Int32} (hp : p < 6) (h3 : σ.1 3 p = nI r) (h4 : σ.1 4 p = nI s) (hi : 31 * r + s + i < 62) : f_I_write (cPut b σ G) (b + 1) (nI p) (nI i) x = rV (cPut b (cArr σ 0 (upd (σ.1 0) (31 * r + s + i) x)) G) := by
  simp only [f_I_write, c_ob_0, c_fa_0_0, c_fa_0_1, c_fi_0_2, c_put_0_2, c_fi_0_3, c_put_0_3, c_fi_0_4, c_put_0_4, c_ob_1, c_fa_1_0, c_fa_1_1, c_fa_1_2, c_fa_1_3, c_fa_1_4, c_fa_1_5, c_fi_1_6, c_put_1_6, c_ob_2, c_fa_2_0, c_ob_4, c_fa_4_0, c_ob_6, c_fa_6_0, c_ob_8, c_fa_8_0, c_ob_10, c_fa_10_0, c_ob_12, c_fa_12_0, c_ob_14, c_fa_14_0, c_fa_14_1, c_fa_14_2, c_fa_14_3, c_fi_14_4, c_put_14_4, c_ob_15, c_fa_15_0, c_ob_17, c_fa_17_0, c_ob_19, c_fa_19_0, c_ob_21, c_fa_21_0, c_len_0, c_ld_0, c_st_0, c_rd_0, c_wr_0, c_len_1, c_ld_1, c_st_1, c_rd_1, c_wr_1, c_len_2, c_ld_2, c_st_2, c_rd_2, c_wr_2, c_len_3, c_ld_3, c_st_3, c_rd_3, c_wr_3, c_len_4, c_ld_4, c_st_4, c_rd_4, c_wr_4, c_len_5, c_ld_5, c_st_5, c_rd_5, c_wr_5, c_len_6, c_ld_6, c_st_6, c_rd_6, c_wr_6, c_len_7, c_ld_7, c_st_7, c_rd_7, c_wr_7, c_len_8, c_ld_8, c_st_8, c_rd_8, c_wr_8, c_len_9, c_ld_9, c_st_9, c_rd_9, c_wr_9, bI_rI, bL_rL, bA_rA, bV_rV, bI_th, bL_th, bA_th, bV_th, rZ_0, rZ_1, y_cell hp h3 h4]
  rw [wr_nI hi (by decide), cSet_arr]
theorem y_finish {p : Nat} (hp : p < 6) : f_I_finish (cPut b σ G) (b + 1) (nI p) = rV (cPut b (cSetI (cArr σ 1 (upd (σ.1 1) p (-1))) 0 (σ.2 0 + nI 1)) G) := by
  simp only [f_I_finish, c_ob_0, c_fa_0_0, c_fa_0_1, c_fi_0_2, c_put_0_2, c_fi_0_3, c_put_0_3, c_fi_0_4, c_put_0_4, c_ob_1, c_fa_1_0, c_fa_1_1, c_fa_1_2, c_fa_1_3, c_fa_1_4, c_fa_1_5, c_fi_1_6, c_put_1_6, c_ob_2, c_fa_2_0, c_ob_4, c_fa_4_0, c_ob_6, c_fa_6_0, c_ob_8, c_fa_8_0, c_ob_10, c_fa_10_0, c_ob_12, c_fa_12_0, c_ob_14, c_fa_14_0, c_fa_14_1, c_fa_14_2, c_fa_14_3, c_fi_14_4, c_put_14_4, c_ob_15, c_fa_15_0, c_ob_17, c_fa_17_0, c_ob_19, c_fa_19_0, c_ob_21, c_fa_21_0, c_len_0, c_ld_0, c_st_0, c_rd_0, c_wr_0, c_len_1, c_ld_1, c_st_1, c_rd_1, c_wr_1, c_len_2, c_ld_2, c_st_2, c_rd_2, c_wr_2, c_len_3, c_ld_3, c_st_3, c_rd_3, c_wr_3, c_len_4, c_ld_4, c_st_4, c_rd_4, c_wr_4, c_len_5, c_ld_5, c_st_5, c_rd_5, c_wr_5, c_len_6, c_ld_6, c_st_6, c_rd_6, c_wr_6, c_len_7, c_ld_7, c_st_7, c_rd_7, c_wr_7, c_len_8, c_ld_8, c_st_8, c_rd_8, c_wr_8, c_len_9, c_ld_9, c_st_9, c_rd_9, c_wr_9, bI_rI, bL_rL, bA_rA, bV_rV, bI_th, bL_th, bA_th, bV_th, rZ_0, rZ_1]
  rw [wr_nI hp (by decide)]; rfl
theorem y_state {x : Int32} : f_U_stateOf (cPut b σ G) (b + 14) x = rI (rd 3 (σ.1 6) x) (cPut b σ G) := by simp only [f_U_stateOf, c_ob_0, c_fa_0_0, c_fa_0_1, c_fi_0_2, c_put_0_2, c_fi_0_3, c_put_0_3, c_fi_0_4, c_put_0_4, c_ob_1, c_fa_1_0, c_fa_1_1, c_fa_1_2, c_fa_1_3, c_fa_1_4, c_fa_1_5, c_fi_1_6, c_put_1_6, c_ob_2, c_fa_2_0, c_ob_4, c_fa_4_0, c_ob_6, c_fa_6_0, c_ob_8, c_fa_8_0, c_ob_10, c_fa_10_0, c_ob_12, c_fa_12_0, c_ob_14, c_fa_14_0, c_fa_14_1, c_fa_14_2, c_fa_14_3, c_fi_14_4, c_put_14_4, c_ob_15, c_fa_15_0, c_ob_17, c_fa_17_0, c_ob_19, c_fa_19_0, c_ob_21, c_fa_21_0, c_len_0, c_ld_0, c_st_0, c_rd_0, c_wr_0, c_len_1, c_ld_1, c_st_1, c_rd_1, c_wr_1, c_len_2, c_ld_2, c_st_2, c_rd_2, c_wr_2, c_len_3, c_ld_3, c_st_3, c_rd_3, c_wr_3, c_len_4, c_ld_4, c_st_4, c_rd_4, c_wr_4, c_len_5, c_ld_5, c_st_5, c_rd_5, c_wr_5, c_len_6, c_ld_6, c_st_6, c_rd_6, c_wr_6, c_len_7, c_ld_7, c_st_7, c_rd_7, c_wr_7, c_len_8, c_ld_8, c_st_8, c_rd_8, c_wr_8, c_len_9, c_ld_9, c_st_9, c_rd_9, c_wr_9, bI_rI, bL_rL, bA_rA, bV_rV, bI_th, bL_th, bA_th, bV_th, rZ_0, rZ_1]
theorem y_listOf {x : Int32} : f_U_listOf (cPut b σ G) (b + 14) x = rI (rd 3 (σ.1 7) x) (cPut b σ G) := by simp only [f_U_listOf, c_ob_0, c_fa_0_0, c_fa_0_1, c_fi_0_2, c_put_0_2, c_fi_0_3, c_put_0_3, c_fi_0_4, c_put_0_4, c_ob_1, c_fa_1_0, c_fa_1_1, c_fa_1_2, c_fa_1_3, c_fa_1_4, c_fa_1_5, c_fi_1_6, c_put_1_6, c_ob_2, c_fa_2_0, c_ob_4, c_fa_4_0, c_ob_6, c_fa_6_0, c_ob_8, c_fa_8_0, c_ob_10, c_fa_10_0, c_ob_12, c_fa_12_0, c_ob_14, c_fa_14_0, c_fa_14_1, c_fa_14_2, c_fa_14_3, c_fi_14_4, c_put_14_4, c_ob_15, c_fa_15_0, c_ob_17, c_fa_17_0, c_ob_19, c_fa_19_0, c_ob_21, c_fa_21_0, c_len_0, c_ld_0, c_st_0, c_rd_0, c_wr_0, c_len_1, c_ld_1, c_st_1, c_rd_1, c_wr_1, c_len_2, c_ld_2, c_st_2, c_rd_2, c_wr_2, c_len_3, c_ld_3, c_st_3, c_rd_3, c_wr_3, c_len_4, c_ld_4, c_st_4, c_rd_4, c_wr_4, c_len_5, c_ld_5, c_st_5, c_rd_5, c_wr_5, c_len_6, c_ld_6, c_st_6, c_rd_6, c_wr_6, c_len_7, c_ld_7, c_st_7, c_rd_7, c_wr_7, c_len_8, c_ld_8, c_st_8, c_rd_8, c_wr_8, c_len_9, c_ld_9, c_st_9, c_rd_9, c_wr_9, bI_rI, bL_rL, bA_rA, bV_rV, bI_th, bL_th, bA_th, bV_th, rZ_0, rZ_1]
theorem y_nextOf {x : Int32} : f_U_nextOf (cPut b σ G) (b + 14) x = rI (rd 3 (σ.1 8) x) (cPut b σ G) := by simp only [f_U_nextOf, c_ob_0, c_fa_0_0, c_fa_0_1, c_fi_0_2, c_put_0_2, c_fi_0_3, c_put_0_3, c_fi_0_4, c_put_0_4, c_ob_1, c_fa_1_0, c_fa_1_1, c_fa_1_2, c_fa_1_3, c_fa_1_4, c_fa_1_5, c_fi_1_6, c_put_1_6, c_ob_2, c_fa_2_0, c_ob_4, c_fa_4_0, c_ob_6, c_fa_6_0, c_ob_8, c_fa_8_0, c_ob_10, c_fa_10_0, c_ob_12, c_fa_12_0, c_ob_14, c_fa_14_0, c_fa_14_1, c_fa_14_2, c_fa_14_3, c_fi_14_4, c_put_14_4, c_ob_15, c_fa_15_0, c_ob_17, c_fa_17_0, c_ob_19, c_fa_19_0, c_ob_21, c_fa_21_0, c_len_0, c_ld_0, c_st_0, c_rd_0, c_wr_0, c_len_1, c_ld_1, c_st_1, c_rd_1, c_wr_1, c_len_2, c_ld_2, c_st_2, c_rd_2, c_wr_2, c_len_3, c_ld_3, c_st_3, c_rd_3, c_wr_3, c_len_4, c_ld_4, c_st_4, c_rd_4, c_wr_4, c_len_5, c_ld_5, c_st_5, c_rd_5, c_wr_5, c_len_6, c_ld_6, c_st_6, c_rd_6, c_wr_6, c_len_7, c_ld_7, c_st_7, c_rd_7, c_wr_7, c_len_8, c_ld_8, c_st_8, c_rd_8, c_wr_8, c_len_9, c_ld_9, c_st_9, c_rd_9, c_wr_9, bI_rI, bL_rL, bA_rA, bV_rV, bI_th, bL_th, bA_th, bV_th, rZ_0, rZ_1]
theorem y_lastOf {x : Int32} : f_U_lastOf (cPut b σ G) (b + 14) x = rI (rd 3 (σ.1 9) x) (cPut b σ G) := by simp only [f_U_lastOf, c_ob_0, c_fa_0_0, c_fa_0_1, c_fi_0_2, c_put_0_2, c_fi_0_3, c_put_0_3, c_fi_0_4, c_put_0_4, c_ob_1, c_fa_1_0, c_fa_1_1, c_fa_1_2, c_fa_1_3, c_fa_1_4, c_fa_1_5, c_fi_1_6, c_put_1_6, c_ob_2, c_fa_2_0, c_ob_4, c_fa_4_0, c_ob_6, c_fa_6_0, c_ob_8, c_fa_8_0, c_ob_10, c_fa_10_0, c_ob_12, c_fa_12_0, c_ob_14, c_fa_14_0, c_fa_14_1, c_fa_14_2, c_fa_14_3, c_fi_14_4, c_put_14_4, c_ob_15, c_fa_15_0, c_ob_17, c_fa_17_0, c_ob_19, c_fa_19_0, c_ob_21, c_fa_21_0, c_len_0, c_ld_0, c_st_0, c_rd_0, c_wr_0, c_len_1, c_ld_1, c_st_1, c_rd_1, c_wr_1, c_len_2, c_ld_2, c_st_2, c_rd_2, c_wr_2, c_len_3, c_ld_3, c_st_3, c_rd_3, c_wr_3, c_len_4, c_ld_4, c_st_4, c_rd_4, c_wr_4, c_len_5, c_ld_5, c_st_5, c_rd_5, c_wr_5, c_len_6, c_ld_6, c_st_6, c_rd_6, c_wr_6, c_len_7, c_ld_7, c_st_7, c_rd_7, c_wr_7, c_len_8, c_ld_8, c_st_8, c_rd_8, c_wr_8, c_len_9, c_ld_9, c_st_9, c_rd_9, c_wr_9, bI_rI, bL_rL, bA_rA, bV_rV, bI_th, bL_th, bA_th, bV_th, rZ_0, rZ_1]
theorem y_isStale {x : Int32} : f_U_isStale (cPut b σ G) (b + 14) x = rI (mB (decide (rd 3 (σ.1 6) x = nI 2))) (cPut b σ G) := by
  simp only [f_U_isStale, c_ob_0, c_fa_0_0, c_fa_0_1, c_fi_0_2, c_put_0_2, c_fi_0_3, c_put_0_3, c_fi_0_4, c_put_0_4, c_ob_1, c_fa_1_0, c_fa_1_1, c_fa_1_2, c_fa_1_3, c_fa_1_4, c_fa_1_5, c_fi_1_6, c_put_1_6, c_ob_2, c_fa_2_0, c_ob_4, c_fa_4_0, c_ob_6, c_fa_6_0, c_ob_8, c_fa_8_0, c_ob_10, c_fa_10_0, c_ob_12, c_fa_12_0, c_ob_14, c_fa_14_0, c_fa_14_1, c_fa_14_2, c_fa_14_3, c_fi_14_4, c_put_14_4, c_ob_15, c_fa_15_0, c_ob_17, c_fa_17_0, c_ob_19, c_fa_19_0, c_ob_21, c_fa_21_0, c_len_0, c_ld_0, c_st_0, c_rd_0, c_wr_0, c_len_1, c_ld_1, c_st_1, c_rd_1, c_wr_1, c_len_2, c_ld_2, c_st_2, c_rd_2, c_wr_2, c_len_3, c_ld_3, c_st_3, c_rd_3, c_wr_3, c_len_4, c_ld_4, c_st_4, c_rd_4, c_wr_4, c_len_5, c_ld_5, c_st_5, c_rd_5, c_wr_5, c_len_6, c_ld_6, c_st_6, c_rd_6, c_wr_6, c_len_7, c_ld_7, c_st_7, c_rd_7, c_wr_7, c_len_8, c_ld_8, c_st_8, c_rd_8, c_wr_8, c_len_9, c_ld_9, c_st_9, c_rd_9, c_wr_9, bI_rI, bL_rL, bA_rA, bV_rV, bI_th, bL_th, bA_th, bV_th, rZ_0, rZ_1]
  by_cases h : rd 3 (σ.1 6) x = nI 2
  · rw [if_pos h, decide_eq_true h]; rfl
  · rw [if_neg h, decide_eq_false h]; rfl
theorem y_cThere {x : Int32} : f_U_isThere (cPut b σ G) (b + 14) x = rI (mB (decide (rd 3 (σ.1 6) x = nI 2 ∨ rd 3 (σ.1 6) x = nI 1))) (cPut b σ G) := by
  simp only [f_U_isThere, y_isStale, mB_if, c_ob_0, c_fa_0_0, c_fa_0_1, c_fi_0_2, c_put_0_2, c_fi_0_3, c_put_0_3, c_fi_0_4, c_put_0_4, c_ob_1, c_fa_1_0, c_fa_1_1, c_fa_1_2, c_fa_1_3, c_fa_1_4, c_fa_1_5, c_fi_1_6, c_put_1_6, c_ob_2, c_fa_2_0, c_ob_4, c_fa_4_0, c_ob_6, c_fa_6_0, c_ob_8, c_fa_8_0, c_ob_10, c_fa_10_0, c_ob_12, c_fa_12_0, c_ob_14, c_fa_14_0, c_fa_14_1, c_fa_14_2, c_fa_14_3, c_fi_14_4, c_put_14_4, c_ob_15, c_fa_15_0, c_ob_17, c_fa_17_0, c_ob_19, c_fa_19_0, c_ob_21, c_fa_21_0, c_len_0, c_ld_0, c_st_0, c_rd_0, c_wr_0, c_len_1, c_ld_1, c_st_1, c_rd_1, c_wr_1, c_len_2, c_ld_2, c_st_2, c_rd_2, c_wr_2, c_len_3, c_ld_3, c_st_3, c_rd_3, c_wr_3, c_len_4, c_ld_4, c_st_4, c_rd_4, c_wr_4, c_len_5, c_ld_5, c_st_5, c_rd_5, c_wr_5, c_len_6, c_ld_6, c_st_6, c_rd_6, c_wr_6, c_len_7, c_ld_7, c_st_7, c_rd_7, c_wr_7, c_len_8, c_ld_8, c_st_8, c_rd_8, c_wr_8, c_len_9, c_ld_9, c_st_9, c_rd_9, c_wr_9, bI_rI, bL_rL, bA_rA, bV_rV, bI_th, bL_th, bA_th, bV_th, rZ_0, rZ_1]
  by_cases h : rd 3 (σ.1 6) x = nI 2
  · rw [if_pos (decide_eq_true h), decide_eq_true (Or.inl h)]; rfl
  · rw [if_neg (by rw [decide_eq_false h]; decide)]
    by_cases h1 : rd 3 (σ.1 6) x = nI 1
    · rw [if_pos h1, decide_eq_true (Or.inr h1)]; rfl
    · rw [if_neg h1, decide_eq_false (fun q => q.elim h h1)]; rfl
theorem y_cFinish {c : Nat} (hc : c < 3) : f_U_finish (cPut b σ G) (b + 14) (nI c) = rV (cPut b (cSetI (cArr σ 6 (upd (σ.1 6) c (nI 0))) 1 (σ.2 1 + nI 1)) G) := by
  simp only [f_U_finish, c_ob_0, c_fa_0_0, c_fa_0_1, c_fi_0_2, c_put_0_2, c_fi_0_3, c_put_0_3, c_fi_0_4, c_put_0_4, c_ob_1, c_fa_1_0, c_fa_1_1, c_fa_1_2, c_fa_1_3, c_fa_1_4, c_fa_1_5, c_fi_1_6, c_put_1_6, c_ob_2, c_fa_2_0, c_ob_4, c_fa_4_0, c_ob_6, c_fa_6_0, c_ob_8, c_fa_8_0, c_ob_10, c_fa_10_0, c_ob_12, c_fa_12_0, c_ob_14, c_fa_14_0, c_fa_14_1, c_fa_14_2, c_fa_14_3, c_fi_14_4, c_put_14_4, c_ob_15, c_fa_15_0, c_ob_17, c_fa_17_0, c_ob_19, c_fa_19_0, c_ob_21, c_fa_21_0, c_len_0, c_ld_0, c_st_0, c_rd_0, c_wr_0, c_len_1, c_ld_1, c_st_1, c_rd_1, c_wr_1, c_len_2, c_ld_2, c_st_2, c_rd_2, c_wr_2, c_len_3, c_ld_3, c_st_3, c_rd_3, c_wr_3, c_len_4, c_ld_4, c_st_4, c_rd_4, c_wr_4, c_len_5, c_ld_5, c_st_5, c_rd_5, c_wr_5, c_len_6, c_ld_6, c_st_6, c_rd_6, c_wr_6, c_len_7, c_ld_7, c_st_7, c_rd_7, c_wr_7, c_len_8, c_ld_8, c_st_8, c_rd_8, c_wr_8, c_len_9, c_ld_9, c_st_9, c_rd_9, c_wr_9, bI_rI, bL_rL, bA_rA, bV_rV, bI_th, bL_th, bA_th, bV_th, rZ_0, rZ_1]
  rw [wr_nI hc (by decide)]; rfl
theorem y_unsettle {c i : Nat} (hc : c < 3) (hi : i < 6) (h7 : σ.1 7 c = nI i) : f_U_unsettle (cPut b σ G) (b + 14) (nI c) =
    rV (cPut b (if i < 2 then cArr σ 6 (upd (σ.1 6) c (nI 2)) else cSetI (cArr σ 6 (upd (σ.1 6) c (nI 0))) 1 (σ.2 1 + nI 1)) G) := by
  simp only [f_U_unsettle, y_listOf, y_cFinish hc, c_ob_0, c_fa_0_0, c_fa_0_1, c_fi_0_2, c_put_0_2, c_fi_0_3, c_put_0_3, c_fi_0_4, c_put_0_4, c_ob_1, c_fa_1_0, c_fa_1_1, c_fa_1_2, c_fa_1_3, c_fa_1_4, c_fa_1_5, c_fi_1_6, c_put_1_6, c_ob_2, c_fa_2_0, c_ob_4, c_fa_4_0, c_ob_6, c_fa_6_0, c_ob_8, c_fa_8_0, c_ob_10, c_fa_10_0, c_ob_12, c_fa_12_0, c_ob_14, c_fa_14_0, c_fa_14_1, c_fa_14_2, c_fa_14_3, c_fi_14_4, c_put_14_4, c_ob_15, c_fa_15_0, c_ob_17, c_fa_17_0, c_ob_19, c_fa_19_0, c_ob_21, c_fa_21_0, c_len_0, c_ld_0, c_st_0, c_rd_0, c_wr_0, c_len_1, c_ld_1, c_st_1, c_rd_1, c_wr_1, c_len_2, c_ld_2, c_st_2, c_rd_2, c_wr_2, c_len_3, c_ld_3, c_st_3, c_rd_3, c_wr_3, c_len_4, c_ld_4, c_st_4, c_rd_4, c_wr_4, c_len_5, c_ld_5, c_st_5, c_rd_5, c_wr_5, c_len_6, c_ld_6, c_st_6, c_rd_6, c_wr_6, c_len_7, c_ld_7, c_st_7, c_rd_7, c_wr_7, c_len_8, c_ld_8, c_st_8, c_rd_8, c_wr_8, c_len_9, c_ld_9, c_st_9, c_rd_9, c_wr_9, bI_rI, bL_rL, bA_rA, bV_rV, bI_th, bL_th, bA_th, bV_th, rZ_0, rZ_1]
  rw [rd_nI hc (by decide), h7, wr_nI hc (by decide), cSet_arr]
  by_cases h2 : i < 2
  · rw [if_neg (nI_ge h2 (by decide)), if_pos h2]
  · rw [if_pos (nI_le (by omega) (by omega)), if_neg h2]
theorem y_stand {c : Nat} {x y : Int32} (hc : c < 3) : f_U_stand (cPut b σ G) (b + 14) (nI c) x y = rV (cPut b (cArr (cArr σ 8 (upd (σ.1 8) c x)) 9 (upd (σ.1 9) c y)) G) := by
  simp only [f_U_stand, c_ob_0, c_fa_0_0, c_fa_0_1, c_fi_0_2, c_put_0_2, c_fi_0_3, c_put_0_3, c_fi_0_4, c_put_0_4, c_ob_1, c_fa_1_0, c_fa_1_1, c_fa_1_2, c_fa_1_3, c_fa_1_4, c_fa_1_5, c_fi_1_6, c_put_1_6, c_ob_2, c_fa_2_0, c_ob_4, c_fa_4_0, c_ob_6, c_fa_6_0, c_ob_8, c_fa_8_0, c_ob_10, c_fa_10_0, c_ob_12, c_fa_12_0, c_ob_14, c_fa_14_0, c_fa_14_1, c_fa_14_2, c_fa_14_3, c_fi_14_4, c_put_14_4, c_ob_15, c_fa_15_0, c_ob_17, c_fa_17_0, c_ob_19, c_fa_19_0, c_ob_21, c_fa_21_0, c_len_0, c_ld_0, c_st_0, c_rd_0, c_wr_0, c_len_1, c_ld_1, c_st_1, c_rd_1, c_wr_1, c_len_2, c_ld_2, c_st_2, c_rd_2, c_wr_2, c_len_3, c_ld_3, c_st_3, c_rd_3, c_wr_3, c_len_4, c_ld_4, c_st_4, c_rd_4, c_wr_4, c_len_5, c_ld_5, c_st_5, c_rd_5, c_wr_5, c_len_6, c_ld_6, c_st_6, c_rd_6, c_wr_6, c_len_7, c_ld_7, c_st_7, c_rd_7, c_wr_7, c_len_8, c_ld_8, c_st_8, c_rd_8, c_wr_8, c_len_9, c_ld_9, c_st_9, c_rd_9, c_wr_9, bI_rI, bL_rL, bA_rA, bV_rV, bI_th, bL_th, bA_th, bV_th, rZ_0, rZ_1]
  rw [wr_nI hc (by decide), wr_nI hc (by decide), cSet_arr, cSet_arr, cArr_ne (by decide)]
theorem y_start {c : Nat} {x y : Int32} (hc : c < 3) : f_U_start (cPut b σ G) (b + 14) (nI c) x y = rV (cPut b (cArr (cArr (cArr (cArr σ 6 (upd (σ.1 6) c (nI 1))) 7 (upd (σ.1 7) c x)) 8 (upd (σ.1 8) c y)) 9 (upd (σ.1 9) c (-1))) G) := by
  simp only [f_U_start, y_stand hc, c_ob_0, c_fa_0_0, c_fa_0_1, c_fi_0_2, c_put_0_2, c_fi_0_3, c_put_0_3, c_fi_0_4, c_put_0_4, c_ob_1, c_fa_1_0, c_fa_1_1, c_fa_1_2, c_fa_1_3, c_fa_1_4, c_fa_1_5, c_fi_1_6, c_put_1_6, c_ob_2, c_fa_2_0, c_ob_4, c_fa_4_0, c_ob_6, c_fa_6_0, c_ob_8, c_fa_8_0, c_ob_10, c_fa_10_0, c_ob_12, c_fa_12_0, c_ob_14, c_fa_14_0, c_fa_14_1, c_fa_14_2, c_fa_14_3, c_fi_14_4, c_put_14_4, c_ob_15, c_fa_15_0, c_ob_17, c_fa_17_0, c_ob_19, c_fa_19_0, c_ob_21, c_fa_21_0, c_len_0, c_ld_0, c_st_0, c_rd_0, c_wr_0, c_len_1, c_ld_1, c_st_1, c_rd_1, c_wr_1, c_len_2, c_ld_2, c_st_2, c_rd_2, c_wr_2, c_len_3, c_ld_3, c_st_3, c_rd_3, c_wr_3, c_len_4, c_ld_4, c_st_4, c_rd_4, c_wr_4, c_len_5, c_ld_5, c_st_5, c_rd_5, c_wr_5, c_len_6, c_ld_6, c_st_6, c_rd_6, c_wr_6, c_len_7, c_ld_7, c_st_7, c_rd_7, c_wr_7, c_len_8, c_ld_8, c_st_8, c_rd_8, c_wr_8, c_len_9, c_ld_9, c_st_9, c_rd_9, c_wr_9, bI_rI, bL_rL, bA_rA, bV_rV, bI_th, bL_th, bA_th, bV_th, rZ_0, rZ_1]
  rw [wr_nI hc (by decide), wr_nI hc (by decide), cSet_arr, cSet_arr, cArr_ne (by decide)]; rfl
-- how the arrays tell of the parts
abbrev mP : Type := Nat → Option (Nat × Nat × Nat)
def cHa (f : Nat → Int32) (P : mP) : Prop := (∀ r, r < 2 → f r = -1) ∧ ∀ p x, P p = some x → f p = nI x.1
def cHp (f3 f4 : Nat → Int32) (P : mP) : Prop := ∀ p r s, p < 6 → mRw P zDp p = some (r, s) → f3 p = nI r ∧ f4 p = nI s
def cHl (f : Nat → Int32) (P : mP) : Prop := ∀ p, 2 ≤ p → p < 6 → (f p = -1 ↔ P p = none)
theorem mOk.rank4 {P : mP} (h : mOk P) : ∃ ρ : Nat → Nat, (∀ q, P q ≠ none → ρ q < 4) ∧ ∀ q x, P q = some x → x.1 < 2 ∨ (P x.1 ≠ none ∧ ρ x.1 < ρ q) := by
  obtain ⟨hd, ρ, -, h2⟩ := h
  let t : Nat → Nat → Nat := fun s n => if P s ≠ none ∧ ρ s < n then 1 else 0
  have tm : ∀ s n m, n ≤ m → t s n ≤ t s m := by
    intro s n m hnm
    show (if _ then 1 else 0) ≤ (if _ then 1 else 0)
    by_cases h1 : P s ≠ none ∧ ρ s < n
    · rw [if_pos h1, if_pos ⟨h1.1, by omega⟩]; exact Nat.le_refl _
    · rw [if_neg h1]; exact Nat.zero_le _
  have t1 : ∀ s n, t s n ≤ 1 := by
    intro s n
    show (if _ then 1 else 0) ≤ 1
    split <;> omega
  have t0 : ∀ s, t s (ρ s) = 0 := by
    intro s
    show (if _ then 1 else 0) = 0
    exact if_neg (fun k => Nat.lt_irrefl _ k.2)
  have tp : ∀ s n, P s ≠ none → ρ s < n → t s n = 1 := fun s n a c => if_pos ⟨a, c⟩
  refine ⟨fun q => t 2 (ρ q) + t 3 (ρ q) + t 4 (ρ q) + t 5 (ρ q), fun q hq => ?_, fun q x hx => ?_⟩
  · cases hx : P q with
    | none => exact absurd hx hq
    | some x =>
      have := hd q x hx
      have a2 := t1 2 (ρ q)
      have a3 := t1 3 (ρ q)
      have a4 := t1 4 (ρ q)
      have a5 := t1 5 (ρ q)
      have a0 := t0 q
      show t 2 (ρ q) + t 3 (ρ q) + t 4 (ρ q) + t 5 (ρ q) < 4
      rcases (by omega : q = 2 ∨ q = 3 ∨ q = 4 ∨ q = 5) with rfl | rfl | rfl | rfl <;> omega
  · rcases h2 q x hx with z | z
    · exact Or.inl z
    · refine Or.inr ⟨z.1, ?_⟩
      cases hy : P x.1 with
      | none => exact absurd hy z.1
      | some y =>
        have := hd x.1 y hy
        have a2 := tm 2 (ρ x.1) (ρ q) (by have := z.2; omega)
        have a3 := tm 3 (ρ x.1) (ρ q) (by have := z.2; omega)
        have a4 := tm 4 (ρ x.1) (ρ q) (by have := z.2; omega)
        have a5 := tm 5 (ρ x.1) (ρ q) (by have := z.2; omega)
        have b0 := t0 x.1
        have b1 := tp x.1 (ρ q) z.1 z.2
        show t 2 (ρ x.1) + t 3 (ρ x.1) + t 4 (ρ x.1) + t 5 (ρ x.1) < t 2 (ρ q) + t 3 (ρ q) + t 4 (ρ q) + t 5 (ρ q)
        generalize x.1 = v at *
        rcases (by omega : v = 2 ∨ v = 3 ∨ v = 4 ∨ v = 5) with rfl | rfl | rfl | rfl <;> omega
/-- few steps lead to the row -/
theorem mRw5 {P : mP} (h : mOk P) {p : Nat} (hp : p < 2 ∨ P p ≠ none) {r s : Nat} (hr : mRw P zDp p = some (r, s)) : mRw P 5 p = some (r, s) := by
  obtain ⟨ρ, h1, h2⟩ := h.rank4
  have key : ∀ (d p : Nat), (p < 2 ∧ 1 ≤ d) ∨ (P p ≠ none ∧ ρ p + 2 ≤ d) → ∃ v, mRw P d p = some v := by
    intro d
    induction d with
    | zero => intro p h; omega
    | succ d ih =>
      intro p h
      unfold mRw
      by_cases hp : p < 2
      · exact ⟨_, if_pos hp⟩
      · rw [if_neg hp]
        cases hq : P p with
        | none => rcases h with h | h; · omega
                  · exact absurd hq h.1
        | some x =>
          obtain ⟨o', f, l⟩ := x
          have hk : (o' < 2 ∧ 1 ≤ d) ∨ (P o' ≠ none ∧ ρ o' + 2 ≤ d) := by
            rcases h2 p _ hq with k | k
            · refine Or.inl ⟨k, ?_⟩
              rcases h with h | h <;> omega
            · refine Or.inr ⟨k.1, ?_⟩
              have := k.2
              rcases h with h | h <;> simp only at this <;> omega
          obtain ⟨v, e⟩ := ih o' hk
          exact ⟨(v.1, f + v.2), by simp only [e]; rfl⟩
  obtain ⟨v, e⟩ := key 5 p (hp.elim (fun k => Or.inl ⟨k, by omega⟩) (fun k => Or.inr ⟨k, by have := h1 p k; omega⟩))
  have e3 := mRw_mono _ _ _ (mRw_mono _ _ _ (mRw_mono _ _ _ e))
  rw [e, ← hr]; exact e3.symm
theorem mAb_mono {P : mP} : ∀ (d p : Nat) (v : Nat × Nat), mRw P d p = some v → ∀ q, mAb P (d + 1) q p = mAb P d q p
  | 0, _, _, h, _ => by cases h
  | d + 1, p, v, h, q => by
    unfold mRw at h
    unfold mAb
    by_cases h1 : q = p
    · rw [if_pos h1, if_pos h1]
    · rw [if_neg h1, if_neg h1]
      by_cases h2 : p < 2
      · rw [if_pos h2, if_pos h2]
      · rw [if_neg h2] at h
        rw [if_neg h2, if_neg h2]
        cases hP : P p with
        | none => rfl
        | some x =>
          obtain ⟨o, f, l⟩ := x
          rw [hP] at h
          simp only at h ⊢
          cases hr : mRw P d o with
          | none => rw [hr] at h; cases h
          | some y => exact mAb_mono d o y hr q
theorem mAb5 {P : mP} {p : Nat} {v : Nat × Nat} (h : mRw P 5 p = some v) (q : Nat) : mAb P zDp q p = mAb P 5 q p := by
  show mAb P (5 + 1 + 1 + 1) q p = _
  rw [mAb_mono _ _ _ (mRw_mono _ _ _ (mRw_mono _ _ _ h)), mAb_mono _ _ _ (mRw_mono _ _ _ h), mAb_mono _ _ _ h]
theorem mAb_s {P : mP} {d q p : Nat} : mAb P (d + 1) q p = if q = p then true else if p < 2 then false else match P p with
    | none => false
    | some y => mAb P d q y.1 := rfl
theorem y_lengthenL {K : gH → gR} {z : Int32} {P : mP} {ρ : Nat → Nat} (hρ : ∀ q x, P q = some x → x.1 < 2 ∨ (P x.1 ≠ none ∧ ρ x.1 < ρ q)) (hd : mDom P) : ∀ (d n p j : Nat) (v : Nat × Nat) (σ : cS), mRw P d p = some v → p < 6 → d + j ≤ 6 → d < n → cHa (σ.1 2) P →
    f_I_lengthen_L5 K n (cPut b σ G) (b + 1) z (nI p) (nI j) = K (cPut b (cArr σ 1 (fun q => if mAb P d q p = true then σ.1 1 q + z else σ.1 1 q)) G)
  | 0, _, _, _, _, _, h, _, _, _, _ => by cases h
  | _ + 1, 0, _, _, _, _, _, _, _, h, _ => by omega
  | d + 1, n + 1, p, j, v, σ, h, hp, hj, hn, ha => by
    unfold f_I_lengthen_L5
    rw [if_neg (nI_ge (by omega) (by decide)), if_neg (nI_ne1 (by omega))]
    simp only [c_ob_0, c_fa_0_0, c_fa_0_1, c_fi_0_2, c_put_0_2, c_fi_0_3, c_put_0_3, c_fi_0_4, c_put_0_4, c_ob_1, c_fa_1_0, c_fa_1_1, c_fa_1_2, c_fa_1_3, c_fa_1_4, c_fa_1_5, c_fi_1_6, c_put_1_6, c_ob_2, c_fa_2_0, c_ob_4, c_fa_4_0, c_ob_6, c_fa_6_0, c_ob_8, c_fa_8_0, c_ob_10, c_fa_10_0, c_ob_12, c_fa_12_0, c_ob_14, c_fa_14_0, c_fa_14_1, c_fa_14_2, c_fa_14_3, c_fi_14_4, c_put_14_4, c_ob_15, c_fa_15_0, c_ob_17, c_fa_17_0, c_ob_19, c_fa_19_0, c_ob_21, c_fa_21_0, c_len_0, c_ld_0, c_st_0, c_rd_0, c_wr_0, c_len_1, c_ld_1, c_st_1, c_rd_1, c_wr_1, c_len_2, c_ld_2, c_st_2, c_rd_2, c_wr_2, c_len_3, c_ld_3, c_st_3, c_rd_3, c_wr_3, c_len_4, c_ld_4, c_st_4, c_rd_4, c_wr_4, c_len_5, c_ld_5, c_st_5, c_rd_5, c_wr_5, c_len_6, c_ld_6, c_st_6, c_rd_6, c_wr_6, c_len_7, c_ld_7, c_st_7, c_rd_7, c_wr_7, c_len_8, c_ld_8, c_st_8, c_rd_8, c_wr_8, c_len_9, c_ld_9, c_st_9, c_rd_9, c_wr_9, bI_rI, bL_rL, bA_rA, bV_rV, bI_th, bL_th, bA_th, bV_th, rZ_0, rZ_1]
    rw [rd_nI hp (by decide), wr_nI hp (by decide), cSet_arr, cArr_ne (by decide), rd_nI hp (by decide), nI_add]
    unfold mRw at h
    by_cases h2 : p < 2
    · rw [ha.1 p h2]
      have e : (fun q => if mAb P (d + 1) q p = true then σ.1 1 q + z else σ.1 1 q) = upd (σ.1 1) p (σ.1 1 p + z) := by
        funext q
        rw [mAb_s]
        simp only [upd]
        by_cases e : q = p
        · rw [if_pos e, if_pos rfl, if_pos e, e]
        · rw [if_neg e, if_pos h2, if_neg (by decide), if_neg e]
      rw [e]
      cases n with
      | zero => omega
      | succ n =>
        unfold f_I_lengthen_L5
        rw [if_pos rfl]
        split <;> rfl
    · rw [if_neg h2] at h
      cases hP : P p with
      | none => rw [hP] at h; cases h
      | some x =>
        rw [hP] at h
        obtain ⟨o, f, l⟩ := x
        simp only at h
        cases hr : mRw P d o with
        | none => rw [hr] at h; cases h
        | some y =>
          have ho : o < 6 := by
            rcases hρ p _ hP with k | k
            · simp only at k; omega
            · cases hy : P o with
              | none => exact absurd hy k.1
              | some y => exact (hd o y hy).2
          rw [ha.2 p _ hP, y_lengthenL hρ hd d n o (j + 1) y (cArr σ 1 (upd (σ.1 1) p (σ.1 1 p + z))) hr ho (by omega) (by omega) (by rw [cArr_ne (by decide)]; exact ha), cArr_cArr, cArr_at]
          congr 3
          funext q
          rw [mAb_s]
          by_cases e : q = p
          · subst e
            rw [if_pos rfl, if_pos rfl]
            have hno : mAb P d q o = false := by
              cases hb : mAb P d q o with
              | false => rfl
              | true =>
                have := mAb_rank hρ d q o (by omega) hb
                rcases hρ q _ hP with k | k
                · simp only at k; omega
                · have := k.2; simp only at this; omega
            rw [hno, if_neg (by decide)]
            simp [upd]
          · rw [if_neg e, if_neg h2, hP]
            simp only [upd, if_neg e]
theorem y_lengthen {z : Int32} {P : mP} {p : Nat} (hok : mOk P) (hp : p < 6) (hv : p < 2 ∨ P p ≠ none) (ha : cHa (σ.1 2) P) :
    f_I_lengthen (cPut b σ G) (b + 1) (nI p) z = rV (cPut b (cArr σ 1 (fun q => if mAb P zDp q p = true then σ.1 1 q + z else σ.1 1 q)) G) := by
  obtain ⟨r, s, hr⟩ := hok.rw' hv
  have h5 := mRw5 hok hv hr
  obtain ⟨hd, ρ, -, hρ⟩ := hok
  unfold f_I_lengthen
  rw [y_lengthenL hρ hd 5 zFu p 0 _ σ h5 hp (by omega) (by unfold zFu; omega) ha]
  simp only [mAb5 h5]
theorem y_withinM {K : gH → Int32 → Int32 → gR} {x : Nat} (hx : x < 2 ^ 31) : ∀ (k n j : Nat), j + k = 6 → k < n → f_I_isWithin_L5 K n (cPut b σ G) (b + 1) (nI x) (-1) (nI j) = K (cPut b σ G) (nI x) (-1)
  | _, 0, _, _, h => absurd h (Nat.not_lt_zero _)
  | 0, n + 1, j, hj, _ => by
    unfold f_I_isWithin_L5
    rw [if_pos (nI_le (by omega) (by omega))]
  | k + 1, n + 1, j, hj, hn => by
    unfold f_I_isWithin_L5
    rw [if_neg (nI_ge (by omega) (by decide)), if_neg (fun e => nI_ne1 hx e.symm)]
    simp only [c_ob_0, c_fa_0_0, c_fa_0_1, c_fi_0_2, c_put_0_2, c_fi_0_3, c_put_0_3, c_fi_0_4, c_put_0_4, c_ob_1, c_fa_1_0, c_fa_1_1, c_fa_1_2, c_fa_1_3, c_fa_1_4, c_fa_1_5, c_fi_1_6, c_put_1_6, c_ob_2, c_fa_2_0, c_ob_4, c_fa_4_0, c_ob_6, c_fa_6_0, c_ob_8, c_fa_8_0, c_ob_10, c_fa_10_0, c_ob_12, c_fa_12_0, c_ob_14, c_fa_14_0, c_fa_14_1, c_fa_14_2, c_fa_14_3, c_fi_14_4, c_put_14_4, c_ob_15, c_fa_15_0, c_ob_17, c_fa_17_0, c_ob_19, c_fa_19_0, c_ob_21, c_fa_21_0, c_len_0, c_ld_0, c_st_0, c_rd_0, c_wr_0, c_len_1, c_ld_1, c_st_1, c_rd_1, c_wr_1, c_len_2, c_ld_2, c_st_2, c_rd_2, c_wr_2, c_len_3, c_ld_3, c_st_3, c_rd_3, c_wr_3, c_len_4, c_ld_4, c_st_4, c_rd_4, c_wr_4, c_len_5, c_ld_5, c_st_5, c_rd_5, c_wr_5, c_len_6, c_ld_6, c_st_6, c_rd_6, c_wr_6, c_len_7, c_ld_7, c_st_7, c_rd_7, c_wr_7, c_len_8, c_ld_8, c_st_8, c_rd_8, c_wr_8, c_len_9, c_ld_9, c_st_9, c_rd_9, c_wr_9, bI_rI, bL_rL, bA_rA, bV_rV, bI_th, bL_th, bA_th, bV_th, rZ_0, rZ_1]
    rw [rd_m1, nI_add, y_withinM hx k n (j + 1) (by omega) (by omega)]
theorem y_withinL {K : gH → Int32 → Int32 → gR} {P : mP} {x : Nat} (hx : x < 6) (hok : mOk P) (ha : cHa (σ.1 2) P) : ∀ (d n p j : Nat) (v : Nat × Nat), mRw P d p = some v → p < 6 → d + j ≤ 6 → 7 < n + j →
    ∃ y, f_I_isWithin_L5 K n (cPut b σ G) (b + 1) (nI x) (nI p) (nI j) = K (cPut b σ G) (nI x) y ∧ (y = nI x ↔ mAb P d x p = true)
  | 0, _, _, _, _, h, _, _, _ => by cases h
  | _ + 1, 0, _, _, _, _, _, _, h => by omega
  | d + 1, n + 1, p, j, v, h, hp, hj, hn => by
    unfold f_I_isWithin_L5
    rw [if_neg (nI_ge (by omega) (by decide))]
    unfold mRw at h
    unfold mAb
    by_cases hxp : x = p
    · rw [if_pos (by rw [hxp]), if_pos hxp]
      exact ⟨_, rfl, fun _ => rfl, fun _ => by rw [hxp]⟩
    · rw [if_neg (fun e => hxp ((nI_eq (by omega) (by omega)).mp e).symm), if_neg hxp]
      simp only [c_ob_0, c_fa_0_0, c_fa_0_1, c_fi_0_2, c_put_0_2, c_fi_0_3, c_put_0_3, c_fi_0_4, c_put_0_4, c_ob_1, c_fa_1_0, c_fa_1_1, c_fa_1_2, c_fa_1_3, c_fa_1_4, c_fa_1_5, c_fi_1_6, c_put_1_6, c_ob_2, c_fa_2_0, c_ob_4, c_fa_4_0, c_ob_6, c_fa_6_0, c_ob_8, c_fa_8_0, c_ob_10, c_fa_10_0, c_ob_12, c_fa_12_0, c_ob_14, c_fa_14_0, c_fa_14_1, c_fa_14_2, c_fa_14_3, c_fi_14_4, c_put_14_4, c_ob_15, c_fa_15_0, c_ob_17, c_fa_17_0, c_ob_19, c_fa_19_0, c_ob_21, c_fa_21_0, c_len_0, c_ld_0, c_st_0, c_rd_0, c_wr_0, c_len_1, c_ld_1, c_st_1, c_rd_1, c_wr_1, c_len_2, c_ld_2, c_st_2, c_rd_2, c_wr_2, c_len_3, c_ld_3, c_st_3, c_rd_3, c_wr_3, c_len_4, c_ld_4, c_st_4, c_rd_4, c_wr_4, c_len_5, c_ld_5, c_st_5, c_rd_5, c_wr_5, c_len_6, c_ld_6, c_st_6, c_rd_6, c_wr_6, c_len_7, c_ld_7, c_st_7, c_rd_7, c_wr_7, c_len_8, c_ld_8, c_st_8, c_rd_8, c_wr_8, c_len_9, c_ld_9, c_st_9, c_rd_9, c_wr_9, bI_rI, bL_rL, bA_rA, bV_rV, bI_th, bL_th, bA_th, bV_th, rZ_0, rZ_1]
      rw [rd_nI hp (by decide), nI_add]
      by_cases h2 : p < 2
      · rw [ha.1 p h2, if_pos h2, y_withinM (by omega) (6 - (j + 1)) n (j + 1) (by omega) (by omega)]
        refine ⟨-1, rfl, fun e => absurd e.symm (nI_ne1 (by omega)), fun e => by cases e⟩
      · rw [if_neg h2] at h
        rw [if_neg h2]
        cases hP : P p with
        | none => rw [hP] at h; cases h
        | some y =>
          rw [hP] at h
          obtain ⟨o, f, l⟩ := y
          simp only at h ⊢
          cases hr : mRw P d o with
          | none => rw [hr] at h; cases h
          | some y =>
            have ho : o < 6 := by
              rcases hok.cl p _ hP with k | k
              · simp only at k; omega
              · cases hy : P o with
                | none => exact absurd hy k
                | some y => exact (hok.1 o y hy).2
            rw [ha.2 p _ hP]
            exact y_withinL hx hok ha d n o (j + 1) y hr ho (by omega) (by omega)
theorem y_isWithin {P : mP} {p x : Nat} (hok : mOk P) (ha : cHa (σ.1 2) P) (hp : p < 6) (hv : p < 2 ∨ P p ≠ none) (hx : x < 6) : f_I_isWithin (cPut b σ G) (b + 1) (nI p) (nI x) = rI (mB (mAb P zDp x p)) (cPut b σ G) := by
  obtain ⟨r, s, hr⟩ := hok.rw' hv
  have h5 := mRw5 hok hv hr
  unfold f_I_isWithin
  obtain ⟨y, e1, e2⟩ := y_withinL (b := b) (G := G) (σ := σ) (K := fun G11 x9 x10 => if x10 = x9 then rZ (nI 1) G11 else rZ (nI 0) G11) hx hok ha 5 zFu p 0 _ h5 hp (by omega) (by unfold zFu; omega)
  rw [e1, mAb5 h5]
  cases hb : mAb P 5 x p with
  | true =>
    rw [if_pos (e2.mpr hb)]; rw [rZ_1]; rfl
  | false =>
    rw [if_neg (fun q => by rw [e2.mp q] at hb; cases hb), rZ_0]; rfl
end Cls
end
