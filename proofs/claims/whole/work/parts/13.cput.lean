/-! The class's own 23 cells: its arrays (0 things, 1 lengths, 2 aboves, 3 rows, 4 starts, 5 spare, 6 states, 7 on, 8 nexts, 9 lasts) and its numbers (0 Lists.ended, 1 Cursors.ended, 2 made, 3 failures, 4 refused). -/
abbrev cS : Type := (Nat → Nat → Int32) × (Nat → Int32)
def cEnc (b : Nat) (σ : cS) (j : Nat) : Option zE := match j with
  | 0 => some (.inr (3, [.ref (b + 1), .ref (b + 14), .int (σ.2 2), .int (σ.2 3), .int (σ.2 4)]))
  | 1 => some (.inr (1, [.ref (b + 2), .ref (b + 4), .ref (b + 6), .ref (b + 8), .ref (b + 10), .ref (b + 12), .int (σ.2 0)]))
  | 2 => some (.inr (2, [.ref (b + 3)]))
  | 3 => some (zI 100 62 (σ.1 0))
  | 4 => some (.inr (2, [.ref (b + 5)]))
  | 5 => some (zI 100 6 (σ.1 1))
  | 6 => some (.inr (2, [.ref (b + 7)]))
  | 7 => some (zI 100 6 (σ.1 2))
  | 8 => some (.inr (2, [.ref (b + 9)]))
  | 9 => some (zI 100 6 (σ.1 3))
  | 10 => some (.inr (2, [.ref (b + 11)]))
  | 11 => some (zI 100 6 (σ.1 4))
  | 12 => some (.inr (2, [.ref (b + 13)]))
  | 13 => some (zI 100 31 (σ.1 5))
  | 14 => some (.inr (0, [.ref (b + 15), .ref (b + 17), .ref (b + 19), .ref (b + 21), .int (σ.2 1)]))
  | 15 => some (.inr (2, [.ref (b + 16)]))
  | 16 => some (zI 100 3 (σ.1 6))
  | 17 => some (.inr (2, [.ref (b + 18)]))
  | 18 => some (zI 100 3 (σ.1 7))
  | 19 => some (.inr (2, [.ref (b + 20)]))
  | 20 => some (zI 100 3 (σ.1 8))
  | 21 => some (.inr (2, [.ref (b + 22)]))
  | 22 => some (zI 100 3 (σ.1 9))
  | _ => none
def cPut (b : Nat) (σ : cS) (G : gH) : gH := (G.1, (G.2.1, fun q => if b ≤ q ∧ q < b + 23 then cEnc b σ (q - b) else G.2.2 q))
theorem cPut_at {b : Nat} {σ : cS} {G : gH} {j : Nat} (h : j < 23) : (cPut b σ G).2.2 (b + j) = cEnc b σ j := by
  simp only [cPut]
  rw [if_pos ⟨by omega, by omega⟩, Nat.add_sub_cancel_left]
def cSet (σ : cS) (k i : Nat) (x : Int32) : cS := (fun q => if q = k then upd (σ.1 k) i x else σ.1 q, σ.2)
def cSetI (σ : cS) (k : Nat) (x : Int32) : cS := (σ.1, fun q => if q = k then x else σ.2 q)
theorem cUp {b : Nat} {σ σ' : cS} {G : gH} {j : Nat} {e : zE} (hj : j < 23) (h : cEnc b σ' j = some e) (h2 : ∀ i, i < 23 → i ≠ j → cEnc b σ' i = cEnc b σ i) : gUp (cPut b σ G) (b + j) e = cPut b σ' G := by
  unfold gUp zUp cPut
  dsimp only
  congr 2
  funext q
  by_cases hq : q = b + j
  · subst hq
    rw [if_pos rfl, if_pos ⟨by omega, by omega⟩, Nat.add_sub_cancel_left, h]
  · rw [if_neg hq]
    by_cases hz : b ≤ q ∧ q < b + 23
    · rw [if_pos hz, if_pos hz, h2 (q - b) (by omega) (by omega)]
    · rw [if_neg hz, if_neg hz]
def rd (n : Nat) (f : Nat → Int32) (i : Int32) : Int32 := if i < 0 then -1 else if nI n ≤ i then -1 else f i.toNatClampNeg
def wr (σ : cS) (k n : Nat) (i x : Int32) : cS := if i < 0 then σ else if nI n ≤ i then σ else cSet σ k i.toNatClampNeg x
theorem gIn_of {i : Int32} {n : Nat} (h1 : ¬ i < 0) (h2 : ¬ nI n ≤ i) (hn : n < 2 ^ 31) : gIn i n = true := by
  obtain ⟨j, hj, rfl⟩ := nI_of h1
  have h3 : j < n := by
    by_cases h : j < n
    · exact h
    · exact absurd (nI_le (Nat.le_of_not_lt h) hj) h2
  simp only [gIn, nI_clamp hj, Bool.not_eq_true', Bool.or_eq_false_iff, decide_eq_false_iff_not]
  exact ⟨h1, by omega⟩
section CPut
variable {b : Nat} {σ : cS} {G : gH}
theorem c_ob_0 {k : List Value → gR} {ci : Nat} (hc : ci = 3 := by rfl) : gOb (cPut b σ G) b ci k = k ([.ref (b + 1), .ref (b + 14), .int (σ.2 2), .int (σ.2 3), .int (σ.2 4)]) := by
  have h := (cPut_at (b := b) (σ := σ) (G := G) (j := 0) (by decide))
  rw [show b + 0 = b by omega] at h
  subst hc
  unfold gOb
  rw [h]
  rfl
theorem c_fa_0_0 {k : Nat → gR} : gFA (cPut b σ G) b 3 0 k = k (b + 1) := by
  unfold gFA
  rw [c_ob_0]
  rfl
theorem c_fa_0_1 {k : Nat → gR} : gFA (cPut b σ G) b 3 1 k = k (b + 14) := by
  unfold gFA
  rw [c_ob_0]
  rfl
theorem c_fi_0_2 {k : Int32 → gR} : gFI (cPut b σ G) b 3 2 k = k (σ.2 2) := by
  unfold gFI
  rw [c_ob_0]
  rfl
theorem c_put_0_2 {k : gH → gR} {x : Int32} : gPut (cPut b σ G) b 3 2 (.int x) k = k (cPut b (cSetI σ 2 x) G) := by
  have h := (cPut_at (b := b) (σ := σ) (G := G) (j := 0) (by decide))
  rw [show b + 0 = b by omega] at h
  unfold gPut gObW
  rw [h]
  have e : gUp (cPut b σ G) b (.inr (3, ([.ref (b + 1), .ref (b + 14), .int (σ.2 2), .int (σ.2 3), .int (σ.2 4)]).set 2 (.int x))) = cPut b (cSetI σ 2 x) G := by
    refine cUp (j := 0) (by decide) (by simp [cEnc, cSetI]) (fun i hi hne => ?_)
    rcases i with _ | _ | _ | _ | _ | _ | _ | _ | _ | _ | _ | _ | _ | _ | _ | _ | _ | _ | _ | _ | _ | _ | _ | _
    all_goals first | (exact absurd rfl hne) | rfl | (simp [cEnc, cSetI]; done) | (exfalso; omega)
  rw [← e]
  rfl
theorem c_fi_0_3 {k : Int32 → gR} : gFI (cPut b σ G) b 3 3 k = k (σ.2 3) := by
  unfold gFI
  rw [c_ob_0]
  rfl
theorem c_put_0_3 {k : gH → gR} {x : Int32} : gPut (cPut b σ G) b 3 3 (.int x) k = k (cPut b (cSetI σ 3 x) G) := by
  have h := (cPut_at (b := b) (σ := σ) (G := G) (j := 0) (by decide))
  rw [show b + 0 = b by omega] at h
  unfold gPut gObW
  rw [h]
  have e : gUp (cPut b σ G) b (.inr (3, ([.ref (b + 1), .ref (b + 14), .int (σ.2 2), .int (σ.2 3), .int (σ.2 4)]).set 3 (.int x))) = cPut b (cSetI σ 3 x) G := by
    refine cUp (j := 0) (by decide) (by simp [cEnc, cSetI]) (fun i hi hne => ?_)
    rcases i with _ | _ | _ | _ | _ | _ | _ | _ | _ | _ | _ | _ | _ | _ | _ | _ | _ | _ | _ | _ | _ | _ | _ | _
    all_goals first | (exact absurd rfl hne) | rfl | (simp [cEnc, cSetI]; done) | (exfalso; omega)
  rw [← e]
  rfl
theorem c_fi_0_4 {k : Int32 → gR} : gFI (cPut b σ G) b 3 4 k = k (σ.2 4) := by
  unfold gFI
  rw [c_ob_0]
  rfl
theorem c_put_0_4 {k : gH → gR} {x : Int32} : gPut (cPut b σ G) b 3 4 (.int x) k = k (cPut b (cSetI σ 4 x) G) := by
  have h := (cPut_at (b := b) (σ := σ) (G := G) (j := 0) (by decide))
  rw [show b + 0 = b by omega] at h
  unfold gPut gObW
  rw [h]
  have e : gUp (cPut b σ G) b (.inr (3, ([.ref (b + 1), .ref (b + 14), .int (σ.2 2), .int (σ.2 3), .int (σ.2 4)]).set 4 (.int x))) = cPut b (cSetI σ 4 x) G := by
    refine cUp (j := 0) (by decide) (by simp [cEnc, cSetI]) (fun i hi hne => ?_)
    rcases i with _ | _ | _ | _ | _ | _ | _ | _ | _ | _ | _ | _ | _ | _ | _ | _ | _ | _ | _ | _ | _ | _ | _ | _
    all_goals first | (exact absurd rfl hne) | rfl | (simp [cEnc, cSetI]; done) | (exfalso; omega)
  rw [← e]
  rfl
theorem c_ob_1 {k : List Value → gR} {ci : Nat} (hc : ci = 1 := by rfl) : gOb (cPut b σ G) (b + 1) ci k = k ([.ref (b + 2), .ref (b + 4), .ref (b + 6), .ref (b + 8), .ref (b + 10), .ref (b + 12), .int (σ.2 0)]) := by
  have h := (cPut_at (b := b) (σ := σ) (G := G) (j := 1) (by decide))
  subst hc
  unfold gOb
  rw [h]
  rfl
theorem c_fa_1_0 {k : Nat → gR} : gFA (cPut b σ G) (b + 1) 1 0 k = k (b + 2) := by
  unfold gFA
  rw [c_ob_1]
  rfl
theorem c_fa_1_1 {k : Nat → gR} : gFA (cPut b σ G) (b + 1) 1 1 k = k (b + 4) := by
  unfold gFA
  rw [c_ob_1]
  rfl
theorem c_fa_1_2 {k : Nat → gR} : gFA (cPut b σ G) (b + 1) 1 2 k = k (b + 6) := by
  unfold gFA
  rw [c_ob_1]
  rfl
theorem c_fa_1_3 {k : Nat → gR} : gFA (cPut b σ G) (b + 1) 1 3 k = k (b + 8) := by
  unfold gFA
  rw [c_ob_1]
  rfl
theorem c_fa_1_4 {k : Nat → gR} : gFA (cPut b σ G) (b + 1) 1 4 k = k (b + 10) := by
  unfold gFA
  rw [c_ob_1]
  rfl
theorem c_fa_1_5 {k : Nat → gR} : gFA (cPut b σ G) (b + 1) 1 5 k = k (b + 12) := by
  unfold gFA
  rw [c_ob_1]
  rfl
theorem c_fi_1_6 {k : Int32 → gR} : gFI (cPut b σ G) (b + 1) 1 6 k = k (σ.2 0) := by
  unfold gFI
  rw [c_ob_1]
  rfl
theorem c_put_1_6 {k : gH → gR} {x : Int32} : gPut (cPut b σ G) (b + 1) 1 6 (.int x) k = k (cPut b (cSetI σ 0 x) G) := by
  have h := (cPut_at (b := b) (σ := σ) (G := G) (j := 1) (by decide))
  unfold gPut gObW
  rw [h]
  have e : gUp (cPut b σ G) (b + 1) (.inr (1, ([.ref (b + 2), .ref (b + 4), .ref (b + 6), .ref (b + 8), .ref (b + 10), .ref (b + 12), .int (σ.2 0)]).set 6 (.int x))) = cPut b (cSetI σ 0 x) G := by
    refine cUp (j := 1) (by decide) (by simp [cEnc, cSetI]) (fun i hi hne => ?_)
    rcases i with _ | _ | _ | _ | _ | _ | _ | _ | _ | _ | _ | _ | _ | _ | _ | _ | _ | _ | _ | _ | _ | _ | _ | _
    all_goals first | (exact absurd rfl hne) | rfl | (simp [cEnc, cSetI]; done) | (exfalso; omega)
  rw [← e]
  rfl
theorem c_ob_2 {k : List Value → gR} {ci : Nat} (hc : ci = 2 := by rfl) : gOb (cPut b σ G) (b + 2) ci k = k ([.ref (b + 3)]) := by
  have h := (cPut_at (b := b) (σ := σ) (G := G) (j := 2) (by decide))
  subst hc
  unfold gOb
  rw [h]
  rfl
theorem c_fa_2_0 {k : Nat → gR} : gFA (cPut b σ G) (b + 2) 2 0 k = k (b + 3) := by
  unfold gFA
  rw [c_ob_2]
  rfl
theorem c_ob_4 {k : List Value → gR} {ci : Nat} (hc : ci = 2 := by rfl) : gOb (cPut b σ G) (b + 4) ci k = k ([.ref (b + 5)]) := by
  have h := (cPut_at (b := b) (σ := σ) (G := G) (j := 4) (by decide))
  subst hc
  unfold gOb
  rw [h]
  rfl
theorem c_fa_4_0 {k : Nat → gR} : gFA (cPut b σ G) (b + 4) 2 0 k = k (b + 5) := by
  unfold gFA
  rw [c_ob_4]
  rfl
theorem c_ob_6 {k : List Value → gR} {ci : Nat} (hc : ci = 2 := by rfl) : gOb (cPut b σ G) (b + 6) ci k = k ([.ref (b + 7)]) := by
  have h := (cPut_at (b := b) (σ := σ) (G := G) (j := 6) (by decide))
  subst hc
  unfold gOb
  rw [h]
  rfl
theorem c_fa_6_0 {k : Nat → gR} : gFA (cPut b σ G) (b + 6) 2 0 k = k (b + 7) := by
  unfold gFA
  rw [c_ob_6]
  rfl
theorem c_ob_8 {k : List Value → gR} {ci : Nat} (hc : ci = 2 := by rfl) : gOb (cPut b σ G) (b + 8) ci k = k ([.ref (b + 9)]) := by
  have h := (cPut_at (b := b) (σ := σ) (G := G) (j := 8) (by decide))
  subst hc
  unfold gOb
  rw [h]
  rfl
theorem c_fa_8_0 {k : Nat → gR} : gFA (cPut b σ G) (b + 8) 2 0 k = k (b + 9) := by
  unfold gFA
  rw [c_ob_8]
  rfl
theorem c_ob_10 {k : List Value → gR} {ci : Nat} (hc : ci = 2 := by rfl) : gOb (cPut b σ G) (b + 10) ci k = k ([.ref (b + 11)]) := by
  have h := (cPut_at (b := b) (σ := σ) (G := G) (j := 10) (by decide))
  subst hc
  unfold gOb
  rw [h]
  rfl
theorem c_fa_10_0 {k : Nat → gR} : gFA (cPut b σ G) (b + 10) 2 0 k = k (b + 11) := by
  unfold gFA
  rw [c_ob_10]
  rfl
theorem c_ob_12 {k : List Value → gR} {ci : Nat} (hc : ci = 2 := by rfl) : gOb (cPut b σ G) (b + 12) ci k = k ([.ref (b + 13)]) := by
  have h := (cPut_at (b := b) (σ := σ) (G := G) (j := 12) (by decide))
  subst hc
  unfold gOb
  rw [h]
  rfl
theorem c_fa_12_0 {k : Nat → gR} : gFA (cPut b σ G) (b + 12) 2 0 k = k (b + 13) := by
  unfold gFA
  rw [c_ob_12]
  rfl
theorem c_ob_14 {k : List Value → gR} {ci : Nat} (hc : ci = 0 := by rfl) : gOb (cPut b σ G) (b + 14) ci k = k ([.ref (b + 15), .ref (b + 17), .ref (b + 19), .ref (b + 21), .int (σ.2 1)]) := by
  have h := (cPut_at (b := b) (σ := σ) (G := G) (j := 14) (by decide))
  subst hc
  unfold gOb
  rw [h]
  rfl
theorem c_fa_14_0 {k : Nat → gR} : gFA (cPut b σ G) (b + 14) 0 0 k = k (b + 15) := by
  unfold gFA
  rw [c_ob_14]
  rfl
theorem c_fa_14_1 {k : Nat → gR} : gFA (cPut b σ G) (b + 14) 0 1 k = k (b + 17) := by
  unfold gFA
  rw [c_ob_14]
  rfl
theorem c_fa_14_2 {k : Nat → gR} : gFA (cPut b σ G) (b + 14) 0 2 k = k (b + 19) := by
  unfold gFA
  rw [c_ob_14]
  rfl
theorem c_fa_14_3 {k : Nat → gR} : gFA (cPut b σ G) (b + 14) 0 3 k = k (b + 21) := by
  unfold gFA
  rw [c_ob_14]
  rfl
theorem c_fi_14_4 {k : Int32 → gR} : gFI (cPut b σ G) (b + 14) 0 4 k = k (σ.2 1) := by
  unfold gFI
  rw [c_ob_14]
  rfl
theorem c_put_14_4 {k : gH → gR} {x : Int32} : gPut (cPut b σ G) (b + 14) 0 4 (.int x) k = k (cPut b (cSetI σ 1 x) G) := by
  have h := (cPut_at (b := b) (σ := σ) (G := G) (j := 14) (by decide))
  unfold gPut gObW
  rw [h]
  have e : gUp (cPut b σ G) (b + 14) (.inr (0, ([.ref (b + 15), .ref (b + 17), .ref (b + 19), .ref (b + 21), .int (σ.2 1)]).set 4 (.int x))) = cPut b (cSetI σ 1 x) G := by
    refine cUp (j := 14) (by decide) (by simp [cEnc, cSetI]) (fun i hi hne => ?_)
    rcases i with _ | _ | _ | _ | _ | _ | _ | _ | _ | _ | _ | _ | _ | _ | _ | _ | _ | _ | _ | _ | _ | _ | _ | _
    all_goals first | (exact absurd rfl hne) | rfl | (simp [cEnc, cSetI]; done) | (exfalso; omega)
  rw [← e]
  rfl
theorem c_ob_15 {k : List Value → gR} {ci : Nat} (hc : ci = 2 := by rfl) : gOb (cPut b σ G) (b + 15) ci k = k ([.ref (b + 16)]) := by
  have h := (cPut_at (b := b) (σ := σ) (G := G) (j := 15) (by decide))
  subst hc
  unfold gOb
  rw [h]
  rfl
theorem c_fa_15_0 {k : Nat → gR} : gFA (cPut b σ G) (b + 15) 2 0 k = k (b + 16) := by
  unfold gFA
  rw [c_ob_15]
  rfl
theorem c_ob_17 {k : List Value → gR} {ci : Nat} (hc : ci = 2 := by rfl) : gOb (cPut b σ G) (b + 17) ci k = k ([.ref (b + 18)]) := by
  have h := (cPut_at (b := b) (σ := σ) (G := G) (j := 17) (by decide))
  subst hc
  unfold gOb
  rw [h]
  rfl
theorem c_fa_17_0 {k : Nat → gR} : gFA (cPut b σ G) (b + 17) 2 0 k = k (b + 18) := by
  unfold gFA
  rw [c_ob_17]
  rfl
theorem c_ob_19 {k : List Value → gR} {ci : Nat} (hc : ci = 2 := by rfl) : gOb (cPut b σ G) (b + 19) ci k = k ([.ref (b + 20)]) := by
  have h := (cPut_at (b := b) (σ := σ) (G := G) (j := 19) (by decide))
  subst hc
  unfold gOb
  rw [h]
  rfl
theorem c_fa_19_0 {k : Nat → gR} : gFA (cPut b σ G) (b + 19) 2 0 k = k (b + 20) := by
  unfold gFA
  rw [c_ob_19]
  rfl
theorem c_ob_21 {k : List Value → gR} {ci : Nat} (hc : ci = 2 := by rfl) : gOb (cPut b σ G) (b + 21) ci k = k ([.ref (b + 22)]) := by
  have h := (cPut_at (b := b) (σ := σ) (G := G) (j := 21) (by decide))
  subst hc
  unfold gOb
  rw [h]
  rfl
theorem c_fa_21_0 {k : Nat → gR} : gFA (cPut b σ G) (b + 21) 2 0 k = k (b + 22) := by
  unfold gFA
  rw [c_ob_21]
  rfl
theorem c_len_0 {f : Int32 → gR} : gLen (cPut b σ G) (b + 3) 100 f = f (nI 62) := by
  have h := (cPut_at (b := b) (σ := σ) (G := G) (j := 3) (by decide))
  unfold gLen gAr
  rw [h]
  rfl
theorem c_ld_0 {f : Int32 → gR} {i : Int32} : gLd (cPut b σ G) (b + 3) 100 i f = if gIn i 62 = true then f (σ.1 0 i.toNatClampNeg) else none := by
  have h := (cPut_at (b := b) (σ := σ) (G := G) (j := 3) (by decide))
  unfold gLd gAr
  rw [h]
  rfl
theorem c_st_0 {f : gH → gR} {i x : Int32} : gSt (cPut b σ G) (b + 3) 100 i x f = if gIn i 62 = true then f (cPut b (cSet σ 0 i.toNatClampNeg x) G) else none := by
  have h := (cPut_at (b := b) (σ := σ) (G := G) (j := 3) (by decide))
  unfold gSt gArW
  rw [h]
  have e : gUp (cPut b σ G) (b + 3) (zI 100 62 (upd (σ.1 0) i.toNatClampNeg x)) = cPut b (cSet σ 0 i.toNatClampNeg x) G := by
    refine cUp (j := 3) (by decide) (by simp [cEnc, cSet]) (fun i hi hne => ?_)
    rcases i with _ | _ | _ | _ | _ | _ | _ | _ | _ | _ | _ | _ | _ | _ | _ | _ | _ | _ | _ | _ | _ | _ | _ | _
    all_goals first | (exact absurd rfl hne) | rfl | (simp [cEnc, cSet]; done) | (exfalso; omega)
  rw [← e]
  rfl
theorem c_rd_0 {i : Int32} : f_N_read (cPut b σ G) (b + 2) i = rI (rd 62 (σ.1 0) i) (cPut b σ G) := by
  simp only [f_N_read, c_fa_2_0, c_len_0, c_ld_0, rd]
  by_cases h1 : i < 0
  · rw [if_pos h1, if_pos h1]
  · rw [if_neg h1, if_neg h1]
    by_cases h2 : nI 62 ≤ i
    · rw [if_pos h2, if_pos h2]
    · rw [if_neg h2, if_neg h2, if_pos (gIn_of h1 h2 (by decide))]
theorem c_wr_0 {i x : Int32} : f_N_write (cPut b σ G) (b + 2) i x = rV (cPut b (wr σ 0 62 i x) G) := by
  simp only [f_N_write, c_fa_2_0, c_len_0, c_st_0, wr]
  by_cases h1 : i < 0
  · rw [if_pos h1, if_pos h1]
  · rw [if_neg h1, if_neg h1]
    by_cases h2 : nI 62 ≤ i
    · rw [if_pos h2, if_pos h2]
    · rw [if_neg h2, if_neg h2, if_pos (gIn_of h1 h2 (by decide))]
theorem c_len_1 {f : Int32 → gR} : gLen (cPut b σ G) (b + 5) 100 f = f (nI 6) := by
  have h := (cPut_at (b := b) (σ := σ) (G := G) (j := 5) (by decide))
  unfold gLen gAr
  rw [h]
  rfl
theorem c_ld_1 {f : Int32 → gR} {i : Int32} : gLd (cPut b σ G) (b + 5) 100 i f = if gIn i 6 = true then f (σ.1 1 i.toNatClampNeg) else none := by
  have h := (cPut_at (b := b) (σ := σ) (G := G) (j := 5) (by decide))
  unfold gLd gAr
  rw [h]
  rfl
theorem c_st_1 {f : gH → gR} {i x : Int32} : gSt (cPut b σ G) (b + 5) 100 i x f = if gIn i 6 = true then f (cPut b (cSet σ 1 i.toNatClampNeg x) G) else none := by
  have h := (cPut_at (b := b) (σ := σ) (G := G) (j := 5) (by decide))
  unfold gSt gArW
  rw [h]
  have e : gUp (cPut b σ G) (b + 5) (zI 100 6 (upd (σ.1 1) i.toNatClampNeg x)) = cPut b (cSet σ 1 i.toNatClampNeg x) G := by
    refine cUp (j := 5) (by decide) (by simp [cEnc, cSet]) (fun i hi hne => ?_)
    rcases i with _ | _ | _ | _ | _ | _ | _ | _ | _ | _ | _ | _ | _ | _ | _ | _ | _ | _ | _ | _ | _ | _ | _ | _
    all_goals first | (exact absurd rfl hne) | rfl | (simp [cEnc, cSet]; done) | (exfalso; omega)
  rw [← e]
  rfl
theorem c_rd_1 {i : Int32} : f_N_read (cPut b σ G) (b + 4) i = rI (rd 6 (σ.1 1) i) (cPut b σ G) := by
  simp only [f_N_read, c_fa_4_0, c_len_1, c_ld_1, rd]
  by_cases h1 : i < 0
  · rw [if_pos h1, if_pos h1]
  · rw [if_neg h1, if_neg h1]
    by_cases h2 : nI 6 ≤ i
    · rw [if_pos h2, if_pos h2]
    · rw [if_neg h2, if_neg h2, if_pos (gIn_of h1 h2 (by decide))]
theorem c_wr_1 {i x : Int32} : f_N_write (cPut b σ G) (b + 4) i x = rV (cPut b (wr σ 1 6 i x) G) := by
  simp only [f_N_write, c_fa_4_0, c_len_1, c_st_1, wr]
  by_cases h1 : i < 0
  · rw [if_pos h1, if_pos h1]
  · rw [if_neg h1, if_neg h1]
    by_cases h2 : nI 6 ≤ i
    · rw [if_pos h2, if_pos h2]
    · rw [if_neg h2, if_neg h2, if_pos (gIn_of h1 h2 (by decide))]
theorem c_len_2 {f : Int32 → gR} : gLen (cPut b σ G) (b + 7) 100 f = f (nI 6) := by
  have h := (cPut_at (b := b) (σ := σ) (G := G) (j := 7) (by decide))
  unfold gLen gAr
  rw [h]
  rfl
theorem c_ld_2 {f : Int32 → gR} {i : Int32} : gLd (cPut b σ G) (b + 7) 100 i f = if gIn i 6 = true then f (σ.1 2 i.toNatClampNeg) else none := by
  have h := (cPut_at (b := b) (σ := σ) (G := G) (j := 7) (by decide))
  unfold gLd gAr
  rw [h]
  rfl
theorem c_st_2 {f : gH → gR} {i x : Int32} : gSt (cPut b σ G) (b + 7) 100 i x f = if gIn i 6 = true then f (cPut b (cSet σ 2 i.toNatClampNeg x) G) else none := by
  have h := (cPut_at (b := b) (σ := σ) (G := G) (j := 7) (by decide))
  unfold gSt gArW
  rw [h]
  have e : gUp (cPut b σ G) (b + 7) (zI 100 6 (upd (σ.1 2) i.toNatClampNeg x)) = cPut b (cSet σ 2 i.toNatClampNeg x) G := by
    refine cUp (j := 7) (by decide) (by simp [cEnc, cSet]) (fun i hi hne => ?_)
    rcases i with _ | _ | _ | _ | _ | _ | _ | _ | _ | _ | _ | _ | _ | _ | _ | _ | _ | _ | _ | _ | _ | _ | _ | _
    all_goals first | (exact absurd rfl hne) | rfl | (simp [cEnc, cSet]; done) | (exfalso; omega)
  rw [← e]
  rfl
theorem c_rd_2 {i : Int32} : f_N_read (cPut b σ G) (b + 6) i = rI (rd 6 (σ.1 2) i) (cPut b σ G) := by
  simp only [f_N_read, c_fa_6_0, c_len_2, c_ld_2, rd]
  by_cases h1 : i < 0
  · rw [if_pos h1, if_pos h1]
  · rw [if_neg h1, if_neg h1]
    by_cases h2 : nI 6 ≤ i
    · rw [if_pos h2, if_pos h2]
    · rw [if_neg h2, if_neg h2, if_pos (gIn_of h1 h2 (by decide))]
theorem c_wr_2 {i x : Int32} : f_N_write (cPut b σ G) (b + 6) i x = rV (cPut b (wr σ 2 6 i x) G) := by
  simp only [f_N_write, c_fa_6_0, c_len_2, c_st_2, wr]
  by_cases h1 : i < 0
  · rw [if_pos h1, if_pos h1]
  · rw [if_neg h1, if_neg h1]
    by_cases h2 : nI 6 ≤ i
    · rw [if_pos h2, if_pos h2]
    · rw [if_neg h2, if_neg h2, if_pos (gIn_of h1 h2 (by decide))]
theorem c_len_3 {f : Int32 → gR} : gLen (cPut b σ G) (b + 9) 100 f = f (nI 6) := by
  have h := (cPut_at (b := b) (σ := σ) (G := G) (j := 9) (by decide))
  unfold gLen gAr
  rw [h]
  rfl
theorem c_ld_3 {f : Int32 → gR} {i : Int32} : gLd (cPut b σ G) (b + 9) 100 i f = if gIn i 6 = true then f (σ.1 3 i.toNatClampNeg) else none := by
  have h := (cPut_at (b := b) (σ := σ) (G := G) (j := 9) (by decide))
  unfold gLd gAr
  rw [h]
  rfl
theorem c_st_3 {f : gH → gR} {i x : Int32} : gSt (cPut b σ G) (b + 9) 100 i x f = if gIn i 6 = true then f (cPut b (cSet σ 3 i.toNatClampNeg x) G) else none := by
  have h := (cPut_at (b := b) (σ := σ) (G := G) (j := 9) (by decide))
  unfold gSt gArW
  rw [h]
  have e : gUp (cPut b σ G) (b + 9) (zI 100 6 (upd (σ.1 3) i.toNatClampNeg x)) = cPut b (cSet σ 3 i.toNatClampNeg x) G := by
    refine cUp (j := 9) (by decide) (by simp [cEnc, cSet]) (fun i hi hne => ?_)
    rcases i with _ | _ | _ | _ | _ | _ | _ | _ | _ | _ | _ | _ | _ | _ | _ | _ | _ | _ | _ | _ | _ | _ | _ | _
    all_goals first | (exact absurd rfl hne) | rfl | (simp [cEnc, cSet]; done) | (exfalso; omega)
  rw [← e]
  rfl
theorem c_rd_3 {i : Int32} : f_N_read (cPut b σ G) (b + 8) i = rI (rd 6 (σ.1 3) i) (cPut b σ G) := by
  simp only [f_N_read, c_fa_8_0, c_len_3, c_ld_3, rd]
  by_cases h1 : i < 0
  · rw [if_pos h1, if_pos h1]
  · rw [if_neg h1, if_neg h1]
    by_cases h2 : nI 6 ≤ i
    · rw [if_pos h2, if_pos h2]
    · rw [if_neg h2, if_neg h2, if_pos (gIn_of h1 h2 (by decide))]
theorem c_wr_3 {i x : Int32} : f_N_write (cPut b σ G) (b + 8) i x = rV (cPut b (wr σ 3 6 i x) G) := by
  simp only [f_N_write, c_fa_8_0, c_len_3, c_st_3, wr]
  by_cases h1 : i < 0
  · rw [if_pos h1, if_pos h1]
  · rw [if_neg h1, if_neg h1]
    by_cases h2 : nI 6 ≤ i
    · rw [if_pos h2, if_pos h2]
    · rw [if_neg h2, if_neg h2, if_pos (gIn_of h1 h2 (by decide))]
theorem c_len_4 {f : Int32 → gR} : gLen (cPut b σ G) (b + 11) 100 f = f (nI 6) := by
  have h := (cPut_at (b := b) (σ := σ) (G := G) (j := 11) (by decide))
  unfold gLen gAr
  rw [h]
  rfl
theorem c_ld_4 {f : Int32 → gR} {i : Int32} : gLd (cPut b σ G) (b + 11) 100 i f = if gIn i 6 = true then f (σ.1 4 i.toNatClampNeg) else none := by
  have h := (cPut_at (b := b) (σ := σ) (G := G) (j := 11) (by decide))
  unfold gLd gAr
  rw [h]
  rfl
theorem c_st_4 {f : gH → gR} {i x : Int32} : gSt (cPut b σ G) (b + 11) 100 i x f = if gIn i 6 = true then f (cPut b (cSet σ 4 i.toNatClampNeg x) G) else none := by
  have h := (cPut_at (b := b) (σ := σ) (G := G) (j := 11) (by decide))
  unfold gSt gArW
  rw [h]
  have e : gUp (cPut b σ G) (b + 11) (zI 100 6 (upd (σ.1 4) i.toNatClampNeg x)) = cPut b (cSet σ 4 i.toNatClampNeg x) G := by
    refine cUp (j := 11) (by decide) (by simp [cEnc, cSet]) (fun i hi hne => ?_)
    rcases i with _ | _ | _ | _ | _ | _ | _ | _ | _ | _ | _ | _ | _ | _ | _ | _ | _ | _ | _ | _ | _ | _ | _ | _
    all_goals first | (exact absurd rfl hne) | rfl | (simp [cEnc, cSet]; done) | (exfalso; omega)
  rw [← e]
  rfl
theorem c_rd_4 {i : Int32} : f_N_read (cPut b σ G) (b + 10) i = rI (rd 6 (σ.1 4) i) (cPut b σ G) := by
  simp only [f_N_read, c_fa_10_0, c_len_4, c_ld_4, rd]
  by_cases h1 : i < 0
  · rw [if_pos h1, if_pos h1]
  · rw [if_neg h1, if_neg h1]
    by_cases h2 : nI 6 ≤ i
    · rw [if_pos h2, if_pos h2]
    · rw [if_neg h2, if_neg h2, if_pos (gIn_of h1 h2 (by decide))]
theorem c_wr_4 {i x : Int32} : f_N_write (cPut b σ G) (b + 10) i x = rV (cPut b (wr σ 4 6 i x) G) := by
  simp only [f_N_write, c_fa_10_0, c_len_4, c_st_4, wr]
  by_cases h1 : i < 0
  · rw [if_pos h1, if_pos h1]
  · rw [if_neg h1, if_neg h1]
    by_cases h2 : nI 6 ≤ i
    · rw [if_pos h2, if_pos h2]
    · rw [if_neg h2, if_neg h2, if_pos (gIn_of h1 h2 (by decide))]
theorem c_len_5 {f : Int32 → gR} : gLen (cPut b σ G) (b + 13) 100 f = f (nI 31) := by
  have h := (cPut_at (b := b) (σ := σ) (G := G) (j := 13) (by decide))
  unfold gLen gAr
  rw [h]
  rfl
theorem c_ld_5 {f : Int32 → gR} {i : Int32} : gLd (cPut b σ G) (b + 13) 100 i f = if gIn i 31 = true then f (σ.1 5 i.toNatClampNeg) else none := by
  have h := (cPut_at (b := b) (σ := σ) (G := G) (j := 13) (by decide))
  unfold gLd gAr
  rw [h]
  rfl
theorem c_st_5 {f : gH → gR} {i x : Int32} : gSt (cPut b σ G) (b + 13) 100 i x f = if gIn i 31 = true then f (cPut b (cSet σ 5 i.toNatClampNeg x) G) else none := by
  have h := (cPut_at (b := b) (σ := σ) (G := G) (j := 13) (by decide))
  unfold gSt gArW
  rw [h]
  have e : gUp (cPut b σ G) (b + 13) (zI 100 31 (upd (σ.1 5) i.toNatClampNeg x)) = cPut b (cSet σ 5 i.toNatClampNeg x) G := by
    refine cUp (j := 13) (by decide) (by simp [cEnc, cSet]) (fun i hi hne => ?_)
    rcases i with _ | _ | _ | _ | _ | _ | _ | _ | _ | _ | _ | _ | _ | _ | _ | _ | _ | _ | _ | _ | _ | _ | _ | _
    all_goals first | (exact absurd rfl hne) | rfl | (simp [cEnc, cSet]; done) | (exfalso; omega)
  rw [← e]
  rfl
theorem c_rd_5 {i : Int32} : f_N_read (cPut b σ G) (b + 12) i = rI (rd 31 (σ.1 5) i) (cPut b σ G) := by
  simp only [f_N_read, c_fa_12_0, c_len_5, c_ld_5, rd]
  by_cases h1 : i < 0
  · rw [if_pos h1, if_pos h1]
  · rw [if_neg h1, if_neg h1]
    by_cases h2 : nI 31 ≤ i
    · rw [if_pos h2, if_pos h2]
    · rw [if_neg h2, if_neg h2, if_pos (gIn_of h1 h2 (by decide))]
theorem c_wr_5 {i x : Int32} : f_N_write (cPut b σ G) (b + 12) i x = rV (cPut b (wr σ 5 31 i x) G) := by
  simp only [f_N_write, c_fa_12_0, c_len_5, c_st_5, wr]
  by_cases h1 : i < 0
  · rw [if_pos h1, if_pos h1]
  · rw [if_neg h1, if_neg h1]
    by_cases h2 : nI 31 ≤ i
    · rw [if_pos h2, if_pos h2]
    · rw [if_neg h2, if_neg h2, if_pos (gIn_of h1 h2 (by decide))]
theorem c_len_6 {f : Int32 → gR} : gLen (cPut b σ G) (b + 16) 100 f = f (nI 3) := by
  have h := (cPut_at (b := b) (σ := σ) (G := G) (j := 16) (by decide))
  unfold gLen gAr
  rw [h]
  rfl
theorem c_ld_6 {f : Int32 → gR} {i : Int32} : gLd (cPut b σ G) (b + 16) 100 i f = if gIn i 3 = true then f (σ.1 6 i.toNatClampNeg) else none := by
  have h := (cPut_at (b := b) (σ := σ) (G := G) (j := 16) (by decide))
  unfold gLd gAr
  rw [h]
  rfl
theorem c_st_6 {f : gH → gR} {i x : Int32} : gSt (cPut b σ G) (b + 16) 100 i x f = if gIn i 3 = true then f (cPut b (cSet σ 6 i.toNatClampNeg x) G) else none := by
  have h := (cPut_at (b := b) (σ := σ) (G := G) (j := 16) (by decide))
  unfold gSt gArW
  rw [h]
  have e : gUp (cPut b σ G) (b + 16) (zI 100 3 (upd (σ.1 6) i.toNatClampNeg x)) = cPut b (cSet σ 6 i.toNatClampNeg x) G := by
    refine cUp (j := 16) (by decide) (by simp [cEnc, cSet]) (fun i hi hne => ?_)
    rcases i with _ | _ | _ | _ | _ | _ | _ | _ | _ | _ | _ | _ | _ | _ | _ | _ | _ | _ | _ | _ | _ | _ | _ | _
    all_goals first | (exact absurd rfl hne) | rfl | (simp [cEnc, cSet]; done) | (exfalso; omega)
  rw [← e]
  rfl
theorem c_rd_6 {i : Int32} : f_N_read (cPut b σ G) (b + 15) i = rI (rd 3 (σ.1 6) i) (cPut b σ G) := by
  simp only [f_N_read, c_fa_15_0, c_len_6, c_ld_6, rd]
  by_cases h1 : i < 0
  · rw [if_pos h1, if_pos h1]
  · rw [if_neg h1, if_neg h1]
    by_cases h2 : nI 3 ≤ i
    · rw [if_pos h2, if_pos h2]
    · rw [if_neg h2, if_neg h2, if_pos (gIn_of h1 h2 (by decide))]
theorem c_wr_6 {i x : Int32} : f_N_write (cPut b σ G) (b + 15) i x = rV (cPut b (wr σ 6 3 i x) G) := by
  simp only [f_N_write, c_fa_15_0, c_len_6, c_st_6, wr]
  by_cases h1 : i < 0
  · rw [if_pos h1, if_pos h1]
  · rw [if_neg h1, if_neg h1]
    by_cases h2 : nI 3 ≤ i
    · rw [if_pos h2, if_pos h2]
    · rw [if_neg h2, if_neg h2, if_pos (gIn_of h1 h2 (by decide))]
theorem c_len_7 {f : Int32 → gR} : gLen (cPut b σ G) (b + 18) 100 f = f (nI 3) := by
  have h := (cPut_at (b := b) (σ := σ) (G := G) (j := 18) (by decide))
  unfold gLen gAr
  rw [h]
  rfl
theorem c_ld_7 {f : Int32 → gR} {i : Int32} : gLd (cPut b σ G) (b + 18) 100 i f = if gIn i 3 = true then f (σ.1 7 i.toNatClampNeg) else none := by
  have h := (cPut_at (b := b) (σ := σ) (G := G) (j := 18) (by decide))
  unfold gLd gAr
  rw [h]
  rfl
theorem c_st_7 {f : gH → gR} {i x : Int32} : gSt (cPut b σ G) (b + 18) 100 i x f = if gIn i 3 = true then f (cPut b (cSet σ 7 i.toNatClampNeg x) G) else none := by
  have h := (cPut_at (b := b) (σ := σ) (G := G) (j := 18) (by decide))
  unfold gSt gArW
  rw [h]
  have e : gUp (cPut b σ G) (b + 18) (zI 100 3 (upd (σ.1 7) i.toNatClampNeg x)) = cPut b (cSet σ 7 i.toNatClampNeg x) G := by
    refine cUp (j := 18) (by decide) (by simp [cEnc, cSet]) (fun i hi hne => ?_)
    rcases i with _ | _ | _ | _ | _ | _ | _ | _ | _ | _ | _ | _ | _ | _ | _ | _ | _ | _ | _ | _ | _ | _ | _ | _
    all_goals first | (exact absurd rfl hne) | rfl | (simp [cEnc, cSet]; done) | (exfalso; omega)
  rw [← e]
  rfl
theorem c_rd_7 {i : Int32} : f_N_read (cPut b σ G) (b + 17) i = rI (rd 3 (σ.1 7) i) (cPut b σ G) := by
  simp only [f_N_read, c_fa_17_0, c_len_7, c_ld_7, rd]
  by_cases h1 : i < 0
  · rw [if_pos h1, if_pos h1]
  · rw [if_neg h1, if_neg h1]
    by_cases h2 : nI 3 ≤ i
    · rw [if_pos h2, if_pos h2]
    · rw [if_neg h2, if_neg h2, if_pos (gIn_of h1 h2 (by decide))]
theorem c_wr_7 {i x : Int32} : f_N_write (cPut b σ G) (b + 17) i x = rV (cPut b (wr σ 7 3 i x) G) := by
  simp only [f_N_write, c_fa_17_0, c_len_7, c_st_7, wr]
  by_cases h1 : i < 0
  · rw [if_pos h1, if_pos h1]
  · rw [if_neg h1, if_neg h1]
    by_cases h2 : nI 3 ≤ i
    · rw [if_pos h2, if_pos h2]
    · rw [if_neg h2, if_neg h2, if_pos (gIn_of h1 h2 (by decide))]
theorem c_len_8 {f : Int32 → gR} : gLen (cPut b σ G) (b + 20) 100 f = f (nI 3) := by
  have h := (cPut_at (b := b) (σ := σ) (G := G) (j := 20) (by decide))
  unfold gLen gAr
  rw [h]
  rfl
theorem c_ld_8 {f : Int32 → gR} {i : Int32} : gLd (cPut b σ G) (b + 20) 100 i f = if gIn i 3 = true then f (σ.1 8 i.toNatClampNeg) else none := by
  have h := (cPut_at (b := b) (σ := σ) (G := G) (j := 20) (by decide))
  unfold gLd gAr
  rw [h]
  rfl
theorem c_st_8 {f : gH → gR} {i x : Int32} : gSt (cPut b σ G) (b + 20) 100 i x f = if gIn i 3 = true then f (cPut b (cSet σ 8 i.toNatClampNeg x) G) else none := by
  have h := (cPut_at (b := b) (σ := σ) (G := G) (j := 20) (by decide))
  unfold gSt gArW
  rw [h]
  have e : gUp (cPut b σ G) (b + 20) (zI 100 3 (upd (σ.1 8) i.toNatClampNeg x)) = cPut b (cSet σ 8 i.toNatClampNeg x) G := by
    refine cUp (j := 20) (by decide) (by simp [cEnc, cSet]) (fun i hi hne => ?_)
    rcases i with _ | _ | _ | _ | _ | _ | _ | _ | _ | _ | _ | _ | _ | _ | _ | _ | _ | _ | _ | _ | _ | _ | _ | _
    all_goals first | (exact absurd rfl hne) | rfl | (simp [cEnc, cSet]; done) | (exfalso; omega)
  rw [← e]
  rfl
theorem c_rd_8 {i : Int32} : f_N_read (cPut b σ G) (b + 19) i = rI (rd 3 (σ.1 8) i) (cPut b σ G) := by
  simp only [f_N_read, c_fa_19_0, c_len_8, c_ld_8, rd]
  by_cases h1 : i < 0
  · rw [if_pos h1, if_pos h1]
  · rw [if_neg h1, if_neg h1]
    by_cases h2 : nI 3 ≤ i
    · rw [if_pos h2, if_pos h2]
    · rw [if_neg h2, if_neg h2, if_pos (gIn_of h1 h2 (by decide))]
theorem c_wr_8 {i x : Int32} : f_N_write (cPut b σ G) (b + 19) i x = rV (cPut b (wr σ 8 3 i x) G) := by
  simp only [f_N_write, c_fa_19_0, c_len_8, c_st_8, wr]
  by_cases h1 : i < 0
  · rw [if_pos h1, if_pos h1]
  · rw [if_neg h1, if_neg h1]
    by_cases h2 : nI 3 ≤ i
    · rw [if_pos h2, if_pos h2]
    · rw [if_neg h2, if_neg h2, if_pos (gIn_of h1 h2 (by decide))]
theorem c_len_9 {f : Int32 → gR} : gLen (cPut b σ G) (b + 22) 100 f = f (nI 3) := by
  have h := (cPut_at (b := b) (σ := σ) (G := G) (j := 22) (by decide))
  unfold gLen gAr
  rw [h]
  rfl
theorem c_ld_9 {f : Int32 → gR} {i : Int32} : gLd (cPut b σ G) (b + 22) 100 i f = if gIn i 3 = true then f (σ.1 9 i.toNatClampNeg) else none := by
  have h := (cPut_at (b := b) (σ := σ) (G := G) (j := 22) (by decide))
  unfold gLd gAr
  rw [h]
  rfl
theorem c_st_9 {f : gH → gR} {i x : Int32} : gSt (cPut b σ G) (b + 22) 100 i x f = if gIn i 3 = true then f (cPut b (cSet σ 9 i.toNatClampNeg x) G) else none := by
  have h := (cPut_at (b := b) (σ := σ) (G := G) (j := 22) (by decide))
  unfold gSt gArW
  rw [h]
  have e : gUp (cPut b σ G) (b + 22) (zI 100 3 (upd (σ.1 9) i.toNatClampNeg x)) = cPut b (cSet σ 9 i.toNatClampNeg x) G := by
    refine cUp (j := 22) (by decide) (by simp [cEnc, cSet]) (fun i hi hne => ?_)
    rcases i with _ | _ | _ | _ | _ | _ | _ | _ | _ | _ | _ | _ | _ | _ | _ | _ | _ | _ | _ | _ | _ | _ | _ | _
    all_goals first | (exact absurd rfl hne) | rfl | (simp [cEnc, cSet]; done) | (exfalso; omega)
  rw [← e]
  rfl
theorem c_rd_9 {i : Int32} : f_N_read (cPut b σ G) (b + 21) i = rI (rd 3 (σ.1 9) i) (cPut b σ G) := by
  simp only [f_N_read, c_fa_21_0, c_len_9, c_ld_9, rd]
  by_cases h1 : i < 0
  · rw [if_pos h1, if_pos h1]
  · rw [if_neg h1, if_neg h1]
    by_cases h2 : nI 3 ≤ i
    · rw [if_pos h2, if_pos h2]
    · rw [if_neg h2, if_neg h2, if_pos (gIn_of h1 h2 (by decide))]
theorem c_wr_9 {i x : Int32} : f_N_write (cPut b σ G) (b + 21) i x = rV (cPut b (wr σ 9 3 i x) G) := by
  simp only [f_N_write, c_fa_21_0, c_len_9, c_st_9, wr]
  by_cases h1 : i < 0
  · rw [if_pos h1, if_pos h1]
  · rw [if_neg h1, if_neg h1]
    by_cases h2 : nI 3 ≤ i
    · rw [if_pos h2, if_pos h2]
    · rw [if_neg h2, if_neg h2, if_pos (gIn_of h1 h2 (by decide))]
end CPut
theorem bI_rI {x : Int32} {G : gH} {k : Int32 → gH → gR} : bI (rI x G) k = k x G := rfl
theorem bL_rL {x : Int64} {G : gH} {k : Int64 → gH → gR} : bL (rL x G) k = k x G := rfl
theorem bA_rA {x : Nat} {G : gH} {k : Nat → gH → gR} : bA (rA x G) k = k x G := rfl
theorem bV_rV {G : gH} {k : gH → gR} : bV (rV G) k = k G := rfl
theorem bI_th {E : String} {G : gH} {k : Int32 → gH → gR} : bI (gThrow E G) k = gThrow E G := rfl
theorem bL_th {E : String} {G : gH} {k : Int64 → gH → gR} : bL (gThrow E G) k = gThrow E G := rfl
theorem bA_th {E : String} {G : gH} {k : Nat → gH → gR} : bA (gThrow E G) k = gThrow E G := rfl
theorem bV_th {E : String} {G : gH} {k : gH → gR} : bV (gThrow E G) k = gThrow E G := rfl
theorem rZ_0 {G : gH} : rZ (nI 0) G = rI 0 G := by unfold rZ; rw [if_pos (show (nI 0 = 0 ∨ nI 0 = 1) from Or.inl rfl)]; rfl
theorem rZ_1 {G : gH} : rZ (nI 1) G = rI 1 G := by unfold rZ; rw [if_pos (show (nI 1 = 0 ∨ nI 1 = 1) from Or.inr rfl)]; rfl
theorem bI_ite {c : Prop} [Decidable c] {A B : gR} {k : Int32 → gH → gR} : bI (if c then A else B) k = if c then bI A k else bI B k := by split <;> rfl
theorem bV_ite {c : Prop} [Decidable c] {A B : gR} {k : gH → gR} : bV (if c then A else B) k = if c then bV A k else bV B k := by split <;> rfl
