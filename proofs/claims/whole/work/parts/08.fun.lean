/-! Methods as functions of the heap: (slots used, (size, what cells hold)); none: not told (a fault, or the fuel ran out). -/
abbrev gH : Type := Nat × zH
abbrev gO : Type := String ⊕ Option Value
abbrev gR : Type := Option (gO × gH)
def gUp (G : gH) (a : Nat) (e : zE) : gH := (G.1, zUp G.2 a e)
def gNew (G : gH) (n : Nat) (e : zE) : gH := (G.1 + n, zNew G.2 e)
def gThrow (E : String) (G : gH) : gR := some (.inl E, (G.1 + 6, (G.2.1 + 1, G.2.2)))
def rI (x : Int32) (G : gH) : gR := some (.inr (some (.int x)), G)
def rZ (x : Int32) (G : gH) : gR := if x = 0 ∨ x = 1 then some (.inr (some (.int x)), G) else none
def rL (x : Int64) (G : gH) : gR := some (.inr (some (.long x)), G)
def rA (x : Nat) (G : gH) : gR := some (.inr (some (.ref x)), G)
def rV (G : gH) : gR := some (.inr none, G)
def bI (x : gR) (k : Int32 → gH → gR) : gR := match x with
  | some (.inr (some (.int v)), G) => k v G
  | some (.inl E, G) => some (.inl E, G)
  | _ => none
def bL (x : gR) (k : Int64 → gH → gR) : gR := match x with
  | some (.inr (some (.long v)), G) => k v G
  | some (.inl E, G) => some (.inl E, G)
  | _ => none
def bA (x : gR) (k : Nat → gH → gR) : gR := match x with
  | some (.inr (some (.ref v)), G) => k v G
  | some (.inl E, G) => some (.inl E, G)
  | _ => none
def bV (x : gR) (k : gH → gR) : gR := match x with
  | some (.inr none, G) => k G
  | some (.inl E, G) => some (.inl E, G)
  | _ => none
/-- the object at a, of the class ci -/
def gOb (G : gH) (a ci : Nat) (k : List Value → gR) : gR := match G.2.2 a with
  | some (.inr (c, fs)) => if c % 1000 = ci then k fs else none
  | _ => none
/-- .. that may be written -/
def gObW (G : gH) (a ci : Nat) (k : List Value → gR) : gR := match G.2.2 a with
  | some (.inr (c, fs)) => if c = ci then k fs else none
  | _ => none
def gFI (G : gH) (a ci j : Nat) (k : Int32 → gR) : gR := gOb G a ci fun fs => match fs[j]? with
  | some (.int v) => k v
  | _ => none
def gFA (G : gH) (a ci j : Nat) (k : Nat → gR) : gR := gOb G a ci fun fs => match fs[j]? with
  | some (.ref v) => k v
  | _ => none
def gPut (G : gH) (a ci j : Nat) (v : Value) (k : gH → gR) : gR := gObW G a ci fun fs => if j < fs.length then k (gUp G a (.inr (ci, fs.set j v))) else none
/-- the array at a, of the kind ka: its length, its ints -/
def gAr (G : gH) (a ka : Nat) (k : Nat → (Nat → Int32) → gR) : gR := match G.2.2 a with
  | some (.inl (c, n, .inl f)) => if c % 1000 = ka then k n f else none
  | _ => none
def gArW (G : gH) (a ka : Nat) (k : Nat → (Nat → Int32) → gR) : gR := match G.2.2 a with
  | some (.inl (c, n, .inl f)) => if c = ka then k n f else none
  | _ => none
def gAqW (G : gH) (a ka : Nat) (k : Nat → (Nat → Option Nat) → gR) : gR := match G.2.2 a with
  | some (.inl (c, n, .inr (.inr (.inr (.inr f))))) => if c = ka then k n f else none
  | _ => none
def gAq (G : gH) (a ka : Nat) (k : Nat → (Nat → Option Nat) → gR) : gR := match G.2.2 a with
  | some (.inl (c, n, .inr (.inr (.inr (.inr f))))) => if c % 1000 = ka then k n f else none
  | _ => none
def gIn (i : Int32) (n : Nat) : Bool := !(decide (i < 0) || decide (n ≤ i.toNatClampNeg))
theorem gIn_in {i : Int32} {n : Nat} (h : gIn i n = true) : vp_in i n := by
  simp only [gIn, Bool.not_eq_true', Bool.or_eq_false_iff, decide_eq_false_iff_not] at h
  exact fun q => q.elim h.1 h.2
def gLd (G : gH) (a ka : Nat) (i : Int32) (k : Int32 → gR) : gR := gAr G a ka fun n f => if gIn i n = true then k (f i.toNatClampNeg) else none
def gSt (G : gH) (a ka : Nat) (i x : Int32) (k : gH → gR) : gR := gArW G a ka fun n f => if gIn i n = true then k (gUp G a (zI ka n (upd f i.toNatClampNeg x))) else none
def gLen (G : gH) (a ka : Nat) (k : Int32 → gR) : gR := gAr G a ka fun n _ => k (nI n)
def gLenq (G : gH) (a ka : Nat) (k : Int32 → gR) : gR := gAq G a ka fun n _ => k (nI n)
def gLdq (G : gH) (a ka : Nat) (i : Int32) (k0 : gR) (k1 : Nat → gR) : gR := gAq G a ka fun n f => if gIn i n = true then (match f i.toNatClampNeg with
  | none => k0
  | some b => k1 b) else none
def gStN (G : gH) (a ka : Nat) (i : Int32) (k : gH → gR) : gR := gAqW G a ka fun n f => if gIn i n = true then k (gUp G a (zQ ka n (va_up f i.toNatClampNeg none))) else none
/-- an object of the class ci goes into an array of its class -/
def gStq (G : gH) (a ka ci : Nat) (i : Int32) (b : Nat) (k : gH → gR) : gR := gAqW G a ka fun n f => if gIn i n = true then gOb G b ci (fun _ => k (gUp G a (zQ ka n (va_up f i.toNatClampNeg (some b))))) else none
/-- an array of the kind kb goes into an array of references -/
def gStA (G : gH) (a ka kb : Nat) (i : Int32) (b : Nat) (k : gH → gR) : gR := gAqW G a ka fun n f => if gIn i n = true then gAr G b kb (fun _ _ => k (gUp G a (zQ ka n (va_up f i.toNatClampNeg (some b))))) else none
/-- whatever may lie in a list: a list, or a row of ints -/
def gStX (G : gH) (a ka : Nat) (i : Int32) (b : Nat) (k : gH → gR) : gR := match G.2.2 b with
  | some (.inr _) => gStq G a ka 9 i b k
  | some (.inl _) => gStA G a ka 100 i b k
  | none => none
def gCaO (G : gH) (a ci : Nat) (k : gR) : gR := gOb G a ci fun _ => k
def gCaA (G : gH) (a ka : Nat) (k : gR) : gR := gAr G a ka fun _ _ => k
def gCaQ (G : gH) (a ka : Nat) (k : gR) : gR := gAq G a ka fun _ _ => k
def gNewO (G : gH) (ci N : Nat) (fs : List Value) (k : Nat → gH → gR) : gR := k G.2.1 (gNew G N (.inr (ci, fs)))
def gNewA (G : gH) (ka : Nat) (n : Int32) (k : Nat → gH → gR) : gR := if ¬ n < 0 ∧ n.toNatClampNeg ≤ 60000000 then k G.2.1 (gNew G n.toNatClampNeg (zI ka n.toNatClampNeg (fun _ => 0))) else none
def gNewQ (G : gH) (ka : Nat) (n : Int32) (k : Nat → gH → gR) : gR := if ¬ n < 0 ∧ n.toNatClampNeg ≤ 60000000 then k G.2.1 (gNew G n.toNatClampNeg (zQ ka n.toNatClampNeg (fun _ => none))) else none
def gDiv (x y : Int32) (k : Int32 → gR) : gR := if y = 0 then none else k (x / y)
def gRem (x y : Int32) (k : Int32 → gR) : gR := if y = 0 then none else k (x - x / y * y)
def gGo (b : Bool) (k : gR) : gR := if b = true then k else none
/-- what is owed at the end of a method: this outcome, this heap -/
def gQ (o : gO) (Gf : gH) : Option Value → zH → Prop := fun v G' => o = .inr v ∧ G' = Gf.2
def gX (o : gO) (Gf : gH) : String → zH → Prop := fun E G' => o = .inl E ∧ Gf.2.1 ≤ G'.1 + 1 ∧ G'.2 = Gf.2.2
def gLe (G Gf : gH) : Prop := G.2.1 ≤ Gf.2.1 ∧ G.1 ≤ Gf.1
theorem gLe.rfl' {G : gH} : gLe G G := ⟨Nat.le_refl _, Nat.le_refl _⟩
/-- a method's contract out of its function -/
def gMet (V : zV) (M : zM) (fr : Nat) (As : List Value) (G : gH) (r : gR) : Prop := ∀ (o : gO) (Gf : gH), r = some (o, Gf) → gLe G Gf ∧ zMet V M fr (Gf.2.1 - G.2.1) (Gf.1 - G.1) As G.2 (gQ o Gf) (gX o Gf)
def Y (V : zV) (M : zM) (fr : Nat) (o : gO) (Gf : gH) (pc : Nat) (L : zLs) (st : List Value) (G : gH) : Prop :=
  gLe G Gf ∧ Z V M fr (gQ o Gf) (gX o Gf) (Gf.2.1 - G.2.1) (Gf.1 - G.1) pc L st G.2
section YRules
variable {V : zV} {M : zM} {fr : Nat} {o : gO} {Gf : gH} {pc : Nat} {L : zLs} {st : List Value} {G : gH}
theorem gMet.of {As : List Value} {r : gR} (hy : plainFor M.1 = true) (hn : (lg_sl As).length ≤ M.2.2.1) (L : zLs) (hL : ∀ ls, lv_has ls M.2.2.1 (lv_args 0 As) → zL ls L)
    (k : ∀ (o : gO) (Gf : gH), r = some (o, Gf) → Y V M fr o Gf 0 L [] G) : gMet V M fr As G r :=
  fun o Gf h => ⟨(k o Gf h).1, zMet.of hy hn L hL (k o Gf h).2⟩
theorem Y.blk {pc' : Nat} {L' : zLs} {st' : List Value} {sg : zSg} (hs : zSeg M.2.1 sg pc = true) (hr : zRun sg pc L st = some (pc', L', st')) (k : Y V M fr o Gf pc' L' st' G) : Y V M fr o Gf pc L st G := by
  exact ⟨k.1, Z.blk hs hr k.2⟩
theorem Y.less {L' : zLs} (h : zLe L' L) (k : Y V M fr o Gf pc L' st G) : Y V M fr o Gf pc L st G := by
  exact ⟨k.1, Z.less h k.2⟩
theorem Y.if_eq {x : Int32} {off : Int} {tgt : Nat} {A B : gR} (hd : decode M.2.1 pc = .ok (.ifCond .eq off, 3)) (ht : (pc : Int) + off = (tgt : Int)) (h : (if x = 0 then A else B) = some (o, Gf)) (kt : x = 0 → A = some (o, Gf) → Y V M fr o Gf tgt L st G) (kf : ¬ (x = 0) → B = some (o, Gf) → Y V M fr o Gf (pc + 3) L st G) : Y V M fr o Gf pc L (.int x :: st) G := by
  by_cases hP : x = 0
  · rw [if_pos hP] at h
    have k := kt hP h
    exact ⟨k.1, Z.if_eq hd ht (fun _ => k.2) (fun q => absurd hP q)⟩
  · rw [if_neg hP] at h
    have k := kf hP h
    exact ⟨k.1, Z.if_eq hd ht (fun q => absurd q hP) (fun _ => k.2)⟩
theorem Y.ic_eq {x y : Int32} {off : Int} {tgt : Nat} {A B : gR} (hd : decode M.2.1 pc = .ok (.if_icmp .eq off, 3)) (ht : (pc : Int) + off = (tgt : Int)) (h : (if x = y then A else B) = some (o, Gf)) (kt : x = y → A = some (o, Gf) → Y V M fr o Gf tgt L st G) (kf : ¬ (x = y) → B = some (o, Gf) → Y V M fr o Gf (pc + 3) L st G) : Y V M fr o Gf pc L (.int y :: .int x :: st) G := by
  by_cases hP : x = y
  · rw [if_pos hP] at h
    have k := kt hP h
    exact ⟨k.1, Z.ic_eq hd ht (fun _ => k.2) (fun q => absurd hP q)⟩
  · rw [if_neg hP] at h
    have k := kf hP h
    exact ⟨k.1, Z.ic_eq hd ht (fun q => absurd q hP) (fun _ => k.2)⟩
theorem Y.if_ne {x : Int32} {off : Int} {tgt : Nat} {A B : gR} (hd : decode M.2.1 pc = .ok (.ifCond .ne off, 3)) (ht : (pc : Int) + off = (tgt : Int)) (h : (if x = 0 then A else B) = some (o, Gf)) (kt : x = 0 → A = some (o, Gf) → Y V M fr o Gf (pc + 3) L st G) (kf : ¬ (x = 0) → B = some (o, Gf) → Y V M fr o Gf tgt L st G) : Y V M fr o Gf pc L (.int x :: st) G := by
  by_cases hP : x = 0
  · rw [if_pos hP] at h
    have k := kt hP h
    exact ⟨k.1, Z.if_ne hd ht (fun q => absurd hP q) (fun _ => k.2)⟩
  · rw [if_neg hP] at h
    have k := kf hP h
    exact ⟨k.1, Z.if_ne hd ht (fun _ => k.2) (fun q => absurd q hP)⟩
theorem Y.ic_ne {x y : Int32} {off : Int} {tgt : Nat} {A B : gR} (hd : decode M.2.1 pc = .ok (.if_icmp .ne off, 3)) (ht : (pc : Int) + off = (tgt : Int)) (h : (if x = y then A else B) = some (o, Gf)) (kt : x = y → A = some (o, Gf) → Y V M fr o Gf (pc + 3) L st G) (kf : ¬ (x = y) → B = some (o, Gf) → Y V M fr o Gf tgt L st G) : Y V M fr o Gf pc L (.int y :: .int x :: st) G := by
  by_cases hP : x = y
  · rw [if_pos hP] at h
    have k := kt hP h
    exact ⟨k.1, Z.ic_ne hd ht (fun q => absurd hP q) (fun _ => k.2)⟩
  · rw [if_neg hP] at h
    have k := kf hP h
    exact ⟨k.1, Z.ic_ne hd ht (fun _ => k.2) (fun q => absurd q hP)⟩
theorem Y.if_lt {x : Int32} {off : Int} {tgt : Nat} {A B : gR} (hd : decode M.2.1 pc = .ok (.ifCond .lt off, 3)) (ht : (pc : Int) + off = (tgt : Int)) (h : (if x < 0 then A else B) = some (o, Gf)) (kt : x < 0 → A = some (o, Gf) → Y V M fr o Gf tgt L st G) (kf : ¬ (x < 0) → B = some (o, Gf) → Y V M fr o Gf (pc + 3) L st G) : Y V M fr o Gf pc L (.int x :: st) G := by
  by_cases hP : x < 0
  · rw [if_pos hP] at h
    have k := kt hP h
    exact ⟨k.1, Z.if_lt hd ht (fun _ => k.2) (fun q => absurd hP q)⟩
  · rw [if_neg hP] at h
    have k := kf hP h
    exact ⟨k.1, Z.if_lt hd ht (fun q => absurd q hP) (fun _ => k.2)⟩
theorem Y.ic_lt {x y : Int32} {off : Int} {tgt : Nat} {A B : gR} (hd : decode M.2.1 pc = .ok (.if_icmp .lt off, 3)) (ht : (pc : Int) + off = (tgt : Int)) (h : (if x < y then A else B) = some (o, Gf)) (kt : x < y → A = some (o, Gf) → Y V M fr o Gf tgt L st G) (kf : ¬ (x < y) → B = some (o, Gf) → Y V M fr o Gf (pc + 3) L st G) : Y V M fr o Gf pc L (.int y :: .int x :: st) G := by
  by_cases hP : x < y
  · rw [if_pos hP] at h
    have k := kt hP h
    exact ⟨k.1, Z.ic_lt hd ht (fun _ => k.2) (fun q => absurd hP q)⟩
  · rw [if_neg hP] at h
    have k := kf hP h
    exact ⟨k.1, Z.ic_lt hd ht (fun q => absurd q hP) (fun _ => k.2)⟩
theorem Y.if_ge {x : Int32} {off : Int} {tgt : Nat} {A B : gR} (hd : decode M.2.1 pc = .ok (.ifCond .ge off, 3)) (ht : (pc : Int) + off = (tgt : Int)) (h : (if 0 ≤ x then A else B) = some (o, Gf)) (kt : 0 ≤ x → A = some (o, Gf) → Y V M fr o Gf tgt L st G) (kf : ¬ (0 ≤ x) → B = some (o, Gf) → Y V M fr o Gf (pc + 3) L st G) : Y V M fr o Gf pc L (.int x :: st) G := by
  by_cases hP : 0 ≤ x
  · rw [if_pos hP] at h
    have k := kt hP h
    exact ⟨k.1, Z.if_ge hd ht (fun _ => k.2) (fun q => absurd hP q)⟩
  · rw [if_neg hP] at h
    have k := kf hP h
    exact ⟨k.1, Z.if_ge hd ht (fun q => absurd q hP) (fun _ => k.2)⟩
theorem Y.ic_ge {x y : Int32} {off : Int} {tgt : Nat} {A B : gR} (hd : decode M.2.1 pc = .ok (.if_icmp .ge off, 3)) (ht : (pc : Int) + off = (tgt : Int)) (h : (if y ≤ x then A else B) = some (o, Gf)) (kt : y ≤ x → A = some (o, Gf) → Y V M fr o Gf tgt L st G) (kf : ¬ (y ≤ x) → B = some (o, Gf) → Y V M fr o Gf (pc + 3) L st G) : Y V M fr o Gf pc L (.int y :: .int x :: st) G := by
  by_cases hP : y ≤ x
  · rw [if_pos hP] at h
    have k := kt hP h
    exact ⟨k.1, Z.ic_ge hd ht (fun _ => k.2) (fun q => absurd hP q)⟩
  · rw [if_neg hP] at h
    have k := kf hP h
    exact ⟨k.1, Z.ic_ge hd ht (fun q => absurd q hP) (fun _ => k.2)⟩
theorem Y.if_gt {x : Int32} {off : Int} {tgt : Nat} {A B : gR} (hd : decode M.2.1 pc = .ok (.ifCond .gt off, 3)) (ht : (pc : Int) + off = (tgt : Int)) (h : (if 0 < x then A else B) = some (o, Gf)) (kt : 0 < x → A = some (o, Gf) → Y V M fr o Gf tgt L st G) (kf : ¬ (0 < x) → B = some (o, Gf) → Y V M fr o Gf (pc + 3) L st G) : Y V M fr o Gf pc L (.int x :: st) G := by
  by_cases hP : 0 < x
  · rw [if_pos hP] at h
    have k := kt hP h
    exact ⟨k.1, Z.if_gt hd ht (fun _ => k.2) (fun q => absurd hP q)⟩
  · rw [if_neg hP] at h
    have k := kf hP h
    exact ⟨k.1, Z.if_gt hd ht (fun q => absurd q hP) (fun _ => k.2)⟩
theorem Y.ic_gt {x y : Int32} {off : Int} {tgt : Nat} {A B : gR} (hd : decode M.2.1 pc = .ok (.if_icmp .gt off, 3)) (ht : (pc : Int) + off = (tgt : Int)) (h : (if y < x then A else B) = some (o, Gf)) (kt : y < x → A = some (o, Gf) → Y V M fr o Gf tgt L st G) (kf : ¬ (y < x) → B = some (o, Gf) → Y V M fr o Gf (pc + 3) L st G) : Y V M fr o Gf pc L (.int y :: .int x :: st) G := by
  by_cases hP : y < x
  · rw [if_pos hP] at h
    have k := kt hP h
    exact ⟨k.1, Z.ic_gt hd ht (fun _ => k.2) (fun q => absurd hP q)⟩
  · rw [if_neg hP] at h
    have k := kf hP h
    exact ⟨k.1, Z.ic_gt hd ht (fun q => absurd q hP) (fun _ => k.2)⟩
theorem Y.if_le {x : Int32} {off : Int} {tgt : Nat} {A B : gR} (hd : decode M.2.1 pc = .ok (.ifCond .le off, 3)) (ht : (pc : Int) + off = (tgt : Int)) (h : (if x ≤ 0 then A else B) = some (o, Gf)) (kt : x ≤ 0 → A = some (o, Gf) → Y V M fr o Gf tgt L st G) (kf : ¬ (x ≤ 0) → B = some (o, Gf) → Y V M fr o Gf (pc + 3) L st G) : Y V M fr o Gf pc L (.int x :: st) G := by
  by_cases hP : x ≤ 0
  · rw [if_pos hP] at h
    have k := kt hP h
    exact ⟨k.1, Z.if_le hd ht (fun _ => k.2) (fun q => absurd hP q)⟩
  · rw [if_neg hP] at h
    have k := kf hP h
    exact ⟨k.1, Z.if_le hd ht (fun q => absurd q hP) (fun _ => k.2)⟩
theorem Y.ic_le {x y : Int32} {off : Int} {tgt : Nat} {A B : gR} (hd : decode M.2.1 pc = .ok (.if_icmp .le off, 3)) (ht : (pc : Int) + off = (tgt : Int)) (h : (if x ≤ y then A else B) = some (o, Gf)) (kt : x ≤ y → A = some (o, Gf) → Y V M fr o Gf tgt L st G) (kf : ¬ (x ≤ y) → B = some (o, Gf) → Y V M fr o Gf (pc + 3) L st G) : Y V M fr o Gf pc L (.int y :: .int x :: st) G := by
  by_cases hP : x ≤ y
  · rw [if_pos hP] at h
    have k := kt hP h
    exact ⟨k.1, Z.ic_le hd ht (fun _ => k.2) (fun q => absurd hP q)⟩
  · rw [if_neg hP] at h
    have k := kf hP h
    exact ⟨k.1, Z.ic_le hd ht (fun q => absurd q hP) (fun _ => k.2)⟩
theorem Y.goto {off : Int} {tgt : Nat} (hd : decode M.2.1 pc = .ok (.goto off, 3)) (ht : (pc : Int) + off = (tgt : Int)) (k : Y V M fr o Gf tgt L st G) : Y V M fr o Gf pc L st G := by
  exact ⟨k.1, Z.goto hd ht k.2⟩
theorem Y.ifnull_r {x : Nat} {off : Int} (hd : decode M.2.1 pc = .ok (.ifnull off, 3)) (k : Y V M fr o Gf (pc + 3) L st G) : Y V M fr o Gf pc L (.ref x :: st) G := by
  exact ⟨k.1, Z.ifnull_r hd k.2⟩
theorem Y.ifnonnull_n {off : Int} (hd : decode M.2.1 pc = .ok (.ifnonnull off, 3)) (k : Y V M fr o Gf (pc + 3) L st G) : Y V M fr o Gf pc L (.null :: st) G := by
  exact ⟨k.1, Z.ifnonnull_n (x := 0) hd k.2⟩
theorem Y.ifnull_n {off : Int} {tgt : Nat} (hd : decode M.2.1 pc = .ok (.ifnull off, 3)) (ht : (pc : Int) + off = (tgt : Int)) (k : Y V M fr o Gf tgt L st G) : Y V M fr o Gf pc L (.null :: st) G := by
  exact ⟨k.1, Z.ifnull_n (x := 0) hd ht k.2⟩
theorem Y.ifnonnull_r {x : Nat} {off : Int} {tgt : Nat} (hd : decode M.2.1 pc = .ok (.ifnonnull off, 3)) (ht : (pc : Int) + off = (tgt : Int)) (k : Y V M fr o Gf tgt L st G) : Y V M fr o Gf pc L (.ref x :: st) G := by
  exact ⟨k.1, Z.ifnonnull_r hd ht k.2⟩
theorem Y.swIn {dflt lo hi : Int} {offs : Array Int} {len : Nat} {x : Int32} {off : Int} {tgt : Nat} (hd : decode M.2.1 pc = .ok (.tableswitch dflt lo hi offs, len)) (g1 : ¬ x.toInt < lo) (g2 : ¬ hi < x.toInt) (ho : offs[(x.toInt - lo).toNat]? = some off) (ht : (pc : Int) + off = (tgt : Int)) (k : Y V M fr o Gf tgt L st G) : Y V M fr o Gf pc L (.int x :: st) G := by
  exact ⟨k.1, Z.swIn hd g1 g2 ho ht k.2⟩
theorem Y.swOut {dflt lo hi : Int} {offs : Array Int} {len : Nat} {x : Int32} {tgt : Nat} (hd : decode M.2.1 pc = .ok (.tableswitch dflt lo hi offs, len)) (g : x.toInt < lo ∨ hi < x.toInt) (ht : (pc : Int) + dflt = (tgt : Int)) (k : Y V M fr o Gf tgt L st G) : Y V M fr o Gf pc L (.int x :: st) G := by
  exact ⟨k.1, Z.swOut hd g ht k.2⟩
theorem Y.idiv {x y : Int32} {k : Int32 → gR} (hd : decode M.2.1 pc = .ok (.idiv, 1)) (h : gDiv x y k = some (o, Gf)) (kk : ∀ v : Int32, k v = some (o, Gf) → Y V M fr o Gf (pc + 1) L (.int v :: st) G) : Y V M fr o Gf pc L (.int y :: .int x :: st) G := by
  unfold gDiv at h
  split at h
  · cases h
  · next hne =>
    have k9 := kk _ h
    exact ⟨k9.1, Z.idiv hd hne k9.2⟩
theorem Y.irem {x y : Int32} {k : Int32 → gR} (hd : decode M.2.1 pc = .ok (.irem, 1)) (h : gRem x y k = some (o, Gf)) (kk : ∀ v : Int32, k v = some (o, Gf) → Y V M fr o Gf (pc + 1) L (.int v :: st) G) : Y V M fr o Gf pc L (.int y :: .int x :: st) G := by
  unfold gRem at h
  split at h
  · cases h
  · next hne =>
    have k9 := kk _ h
    exact ⟨k9.1, Z.irem hd hne k9.2⟩
theorem gOb_inv {a ci : Nat} {k : List Value → gR} (h : gOb G a ci k = some (o, Gf)) : ∃ c fs, G.2.2 a = some (.inr (c, fs)) ∧ c % 1000 = ci ∧ k fs = some (o, Gf) := by
  unfold gOb at h
  split at h
  · next c fs he =>
    split at h
    · next hc => exact ⟨c, fs, he, hc, h⟩
    · cases h
  · cases h
theorem gAr_inv {a ci : Nat} {k : Nat → (Nat → Int32) → gR} (h : gAr G a ci k = some (o, Gf)) : ∃ c n f, G.2.2 a = some (zI c n f) ∧ c % 1000 = ci ∧ k n f = some (o, Gf) := by
  unfold gAr at h
  split at h
  · next c n f he =>
    split at h
    · next hc => exact ⟨c, n, f, he, hc, h⟩
    · cases h
  · cases h
theorem gAq_inv {a ci : Nat} {k : Nat → (Nat → Option Nat) → gR} (h : gAq G a ci k = some (o, Gf)) : ∃ c n f, G.2.2 a = some (zQ c n f) ∧ c % 1000 = ci ∧ k n f = some (o, Gf) := by
  unfold gAq at h
  split at h
  · next c n f he =>
    split at h
    · next hc => exact ⟨c, n, f, he, hc, h⟩
    · cases h
  · cases h
theorem gObW_inv {a ci : Nat} {k : List Value → gR} (h : gObW G a ci k = some (o, Gf)) : ∃ fs, G.2.2 a = some (.inr (ci, fs)) ∧ k fs = some (o, Gf) := by
  unfold gObW at h
  split at h
  · next c fs he =>
    split at h
    · next hc => subst hc; exact ⟨fs, he, h⟩
    · cases h
  · cases h
theorem gArW_inv {a ci : Nat} {k : Nat → (Nat → Int32) → gR} (h : gArW G a ci k = some (o, Gf)) : ∃ n f, G.2.2 a = some (zI ci n f) ∧ k n f = some (o, Gf) := by
  unfold gArW at h
  split at h
  · next c n f he =>
    split at h
    · next hc => subst hc; exact ⟨n, f, he, h⟩
    · cases h
  · cases h
theorem gAqW_inv {a ci : Nat} {k : Nat → (Nat → Option Nat) → gR} (h : gAqW G a ci k = some (o, Gf)) : ∃ n f, G.2.2 a = some (zQ ci n f) ∧ k n f = some (o, Gf) := by
  unfold gAqW at h
  split at h
  · next c n f he =>
    split at h
    · next hc => subst hc; exact ⟨n, f, he, h⟩
    · cases h
  · cases h
theorem Y.getI {a ci k idx : Nat} {ty : FieldType} {fin : Bool} {kk : Int32 → gR} (hf : zFl V.2.2.1 M.1.cls idx ci k ty fin) (hd : decode M.2.1 pc = .ok (.getfield idx, 3)) (h : gFI G a ci k kk = some (o, Gf)) (k9 : ∀ v : Int32, kk v = some (o, Gf) → Y V M fr o Gf (pc + 3) L (.int v :: st) G) : Y V M fr o Gf pc L (.ref a :: st) G := by
  obtain ⟨c0, fs, he, hm, h⟩ := gOb_inv h
  try dsimp only at h
  split at h
  · next v hv =>
    have k8 := k9 v h
    exact ⟨k8.1, Z.getf hf hd he hm hv k8.2⟩
  · cases h
theorem Y.getA {a ci k idx : Nat} {ty : FieldType} {fin : Bool} {kk : Nat → gR} (hf : zFl V.2.2.1 M.1.cls idx ci k ty fin) (hd : decode M.2.1 pc = .ok (.getfield idx, 3)) (h : gFA G a ci k kk = some (o, Gf)) (k9 : ∀ v : Nat, kk v = some (o, Gf) → Y V M fr o Gf (pc + 3) L (.ref v :: st) G) : Y V M fr o Gf pc L (.ref a :: st) G := by
  obtain ⟨c0, fs, he, hm, h⟩ := gOb_inv h
  try dsimp only at h
  split at h
  · next v hv =>
    have k8 := k9 v h
    exact ⟨k8.1, Z.getf hf hd he hm hv k8.2⟩
  · cases h
theorem Y.putf {a ci k idx : Nat} {ty : FieldType} {v : Value} {kk : gH → gR} (hf : zFl V.2.2.1 M.1.cls idx ci k ty false) (hci : ci < 1000) (hn : narrow ty v = v) (hfit : fits ty v = true) (hd : decode M.2.1 pc = .ok (.putfield idx, 3)) (h : gPut G a ci k v kk = some (o, Gf)) (k9 : ∀ G' : gH, G'.1 = G.1 → G'.2.1 = G.2.1 → kk G' = some (o, Gf) → Y V M fr o Gf (pc + 3) L st G') : Y V M fr o Gf pc L (v :: .ref a :: st) G := by
  obtain ⟨fs, he, h⟩ := gObW_inv h
  try dsimp only at h
  split at h
  · next hl =>
    have k8 := k9 (gUp G a (.inr (ci, fs.set k v))) rfl rfl h
    exact ⟨k8.1, Z.putf hf hci hd he hl hn hfit k8.2⟩
  · cases h
theorem Y.putF {a ci k idx : Nat} {ty : FieldType} {v : Value} {kk : gH → gR} (hf : zFl V.2.2.1 M.1.cls idx ci k ty true) (hin2 : M.1.name = "<init>") (hci : ci < 1000) (hn : narrow ty v = v) (hfit : fits ty v = true) (hd : decode M.2.1 pc = .ok (.putfield idx, 3)) (h : gPut G a ci k v kk = some (o, Gf)) (k9 : ∀ G' : gH, G'.1 = G.1 → G'.2.1 = G.2.1 → kk G' = some (o, Gf) → Y V M fr o Gf (pc + 3) L st G') : Y V M fr o Gf pc L (v :: .ref a :: st) G := by
  obtain ⟨fs, he, h⟩ := gObW_inv h
  try dsimp only at h
  split at h
  · next hl =>
    have k8 := k9 (gUp G a (.inr (ci, fs.set k v))) rfl rfl h
    exact ⟨k8.1, Z.putF hf hin2 hci hd he hl hn hfit k8.2⟩
  · cases h
theorem Y.iald {a ka t0 : Nat} {i : Int32} {kk : Int32 → gR} (hd : decode M.2.1 pc = .ok (.iaload, 1)) (ht : V.2.2.2.1[t0]? = some (ka, .int)) (h : gLd G a ka i kk = some (o, Gf)) (k9 : ∀ v : Int32, kk v = some (o, Gf) → Y V M fr o Gf (pc + 1) L (.int v :: st) G) : Y V M fr o Gf pc L (.int i :: .ref a :: st) G := by
  obtain ⟨c0, n, f, he, hm, h⟩ := gAr_inv h
  try dsimp only at h
  split at h
  · next hi =>
    have k8 := k9 _ h
    exact ⟨k8.1, Z.iald hd ht he hm (gIn_in hi) k8.2⟩
  · cases h
theorem Y.bald {a ka t0 : Nat} {i : Int32} {kk : Int32 → gR} (hd : decode M.2.1 pc = .ok (.baload, 1)) (ht : V.2.2.2.1[t0]? = some (ka, .byte)) (h : gLd G a ka i kk = some (o, Gf)) (k9 : ∀ v : Int32, kk v = some (o, Gf) → Y V M fr o Gf (pc + 1) L (.int v :: st) G) : Y V M fr o Gf pc L (.int i :: .ref a :: st) G := by
  obtain ⟨c0, n, f, he, hm, h⟩ := gAr_inv h
  try dsimp only at h
  split at h
  · next hi =>
    have k8 := k9 _ h
    exact ⟨k8.1, Z.bald hd ht he hm (gIn_in hi) k8.2⟩
  · cases h
theorem Y.zald {a ka t0 : Nat} {i : Int32} {kk : Int32 → gR} (hd : decode M.2.1 pc = .ok (.baload, 1)) (ht : V.2.2.2.1[t0]? = some (ka, .boolean)) (h : gLd G a ka i kk = some (o, Gf)) (k9 : ∀ v : Int32, kk v = some (o, Gf) → Y V M fr o Gf (pc + 1) L (.int v :: st) G) : Y V M fr o Gf pc L (.int i :: .ref a :: st) G := by
  obtain ⟨c0, n, f, he, hm, h⟩ := gAr_inv h
  try dsimp only at h
  split at h
  · next hi =>
    have k8 := k9 _ h
    exact ⟨k8.1, Z.zald hd ht he hm (gIn_in hi) k8.2⟩
  · cases h
theorem Y.iast {a ka t0 : Nat} {i x : Int32} {kk : gH → gR} (hd : decode M.2.1 pc = .ok (.iastore, 1)) (ht : V.2.2.2.1[t0]? = some (ka, .int)) (hka : ka < 1000) (h : gSt G a ka i x kk = some (o, Gf)) (k9 : ∀ G' : gH, G'.1 = G.1 → G'.2.1 = G.2.1 → kk G' = some (o, Gf) → Y V M fr o Gf (pc + 1) L st G') : Y V M fr o Gf pc L (.int x :: .int i :: .ref a :: st) G := by
  obtain ⟨n, f, he, h⟩ := gArW_inv h
  try dsimp only at h
  split at h
  · next hi =>
    have k8 := k9 (gUp G a (zI ka n (upd f i.toNatClampNeg x))) rfl rfl h
    exact ⟨k8.1, Z.iast hd ht hka he (gIn_in hi) k8.2⟩
  · cases h
theorem Y.bast {a ka t0 : Nat} {i x : Int32} {kk : gH → gR} (hd : decode M.2.1 pc = .ok (.bastore, 1)) (ht : V.2.2.2.1[t0]? = some (ka, .byte)) (hka : ka < 1000) (h : gSt G a ka i (vp_nar .byte x) kk = some (o, Gf)) (k9 : ∀ G' : gH, G'.1 = G.1 → G'.2.1 = G.2.1 → kk G' = some (o, Gf) → Y V M fr o Gf (pc + 1) L st G') : Y V M fr o Gf pc L (.int x :: .int i :: .ref a :: st) G := by
  obtain ⟨n, f, he, h⟩ := gArW_inv h
  try dsimp only at h
  split at h
  · next hi =>
    have k8 := k9 (gUp G a (zI ka n (upd f i.toNatClampNeg (vp_nar .byte x)))) rfl rfl h
    exact ⟨k8.1, Z.bast hd ht hka he (gIn_in hi) k8.2⟩
  · cases h
theorem Y.zast {a ka t0 : Nat} {i x : Int32} {kk : gH → gR} (hd : decode M.2.1 pc = .ok (.bastore, 1)) (ht : V.2.2.2.1[t0]? = some (ka, .boolean)) (hka : ka < 1000) (h : gSt G a ka i (vp_nar .boolean x) kk = some (o, Gf)) (k9 : ∀ G' : gH, G'.1 = G.1 → G'.2.1 = G.2.1 → kk G' = some (o, Gf) → Y V M fr o Gf (pc + 1) L st G') : Y V M fr o Gf pc L (.int x :: .int i :: .ref a :: st) G := by
  obtain ⟨n, f, he, h⟩ := gArW_inv h
  try dsimp only at h
  split at h
  · next hi =>
    have k8 := k9 (gUp G a (zI ka n (upd f i.toNatClampNeg (vp_nar .boolean x)))) rfl rfl h
    exact ⟨k8.1, Z.zast hd ht hka he (gIn_in hi) k8.2⟩
  · cases h
theorem Y.alen {a ka t0 : Nat} {ty : FieldType} {kk : Int32 → gR} (hd : decode M.2.1 pc = .ok (.arraylength, 1)) (ht : V.2.2.2.1[t0]? = some (ka, ty)) (h : gLen G a ka kk = some (o, Gf)) (k9 : ∀ v : Int32, kk v = some (o, Gf) → Y V M fr o Gf (pc + 1) L (.int v :: st) G) : Y V M fr o Gf pc L (.ref a :: st) G := by
  obtain ⟨c0, n, f, he, hm, h⟩ := gAr_inv h
  have k8 := k9 _ h
  exact ⟨k8.1, Z.alen hd ht he hm rfl k8.2⟩
theorem Y.alenq {a ka t0 : Nat} {ty : FieldType} {kk : Int32 → gR} (hd : decode M.2.1 pc = .ok (.arraylength, 1)) (ht : V.2.2.2.1[t0]? = some (ka, ty)) (h : gLenq G a ka kk = some (o, Gf)) (k9 : ∀ v : Int32, kk v = some (o, Gf) → Y V M fr o Gf (pc + 1) L (.int v :: st) G) : Y V M fr o Gf pc L (.ref a :: st) G := by
  obtain ⟨c0, n, f, he, hm, h⟩ := gAq_inv h
  have k8 := k9 _ h
  exact ⟨k8.1, Z.alen hd ht he hm rfl k8.2⟩
theorem Y.aald {a ka t0 : Nat} {C1 : String} {i : Int32} {k0 : gR} {k1 : Nat → gR} (hd : decode M.2.1 pc = .ok (.aaload, 1)) (ht : V.2.2.2.1[t0]? = some (ka, .object C1)) (h : gLdq G a ka i k0 k1 = some (o, Gf)) (kn : k0 = some (o, Gf) → Y V M fr o Gf (pc + 1) L (.null :: st) G) (kr : ∀ b : Nat, k1 b = some (o, Gf) → Y V M fr o Gf (pc + 1) L (.ref b :: st) G) : Y V M fr o Gf pc L (.int i :: .ref a :: st) G := by
  obtain ⟨c0, n, f, he, hm, h⟩ := gAq_inv h
  try dsimp only at h
  split at h
  · next hi =>
    split at h
    · next hf =>
      have k8 := kn h
      refine ⟨k8.1, Z.aald hd ht he hm (gIn_in hi) ?_⟩
      rw [hf]
      exact k8.2
    · next b hf =>
      have k8 := kr b h
      refine ⟨k8.1, Z.aald hd ht he hm (gIn_in hi) ?_⟩
      rw [hf]
      exact k8.2
  · cases h
theorem Y.aastN {a ka t0 : Nat} {C1 : String} {i : Int32} {kk : gH → gR} (hd : decode M.2.1 pc = .ok (.aastore, 1)) (ht : V.2.2.2.1[t0]? = some (ka, .object C1)) (hka : ka < 1000) (h : gStN G a ka i kk = some (o, Gf)) (k9 : ∀ G' : gH, G'.1 = G.1 → G'.2.1 = G.2.1 → kk G' = some (o, Gf) → Y V M fr o Gf (pc + 1) L st G') : Y V M fr o Gf pc L (.null :: .int i :: .ref a :: st) G := by
  obtain ⟨n, f, he, h⟩ := gAqW_inv h
  try dsimp only at h
  split at h
  · next hi =>
    have k8 := k9 (gUp G a (zQ ka n (va_up f i.toNatClampNeg none))) rfl rfl h
    exact ⟨k8.1, Z.aastN hd ht hka he (gIn_in hi) k8.2⟩
  · cases h
theorem Y.aast {a b ka t0 ci : Nat} {r : vw_C} {i : Int32} {kk : gH → gR} (hd : decode M.2.1 pc = .ok (.aastore, 1)) (ht : V.2.2.2.1[t0]? = some (ka, .object r.1)) (hc : V.2.2.1[ci]? = some r) (hka : ka < 1000) (h : gStq G a ka ci i b kk = some (o, Gf)) (k9 : ∀ G' : gH, G'.1 = G.1 → G'.2.1 = G.2.1 → kk G' = some (o, Gf) → Y V M fr o Gf (pc + 1) L st G') : Y V M fr o Gf pc L (.ref b :: .int i :: .ref a :: st) G := by
  obtain ⟨n, f, he, h⟩ := gAqW_inv h
  try dsimp only at h
  split at h
  · next hi =>
    obtain ⟨c0, vs, hb, hm, h⟩ := gOb_inv h
    have k8 := k9 (gUp G a (zQ ka n (va_up f i.toNatClampNeg (some b)))) rfl rfl h
    exact ⟨k8.1, Z.aast hd ht hc hka hb hm he (gIn_in hi) k8.2⟩
  · cases h
theorem Y.aastC {a b ka t0 ci : Nat} {E : String} {r : vw_C} {i : Int32} {kk : gH → gR} (hd : decode M.2.1 pc = .ok (.aastore, 1)) (ht : V.2.2.2.1[t0]? = some (ka, .object E)) (hc : V.2.2.1[ci]? = some r) (hca : Cond.castable r.1 E ∈ zT) (hka : ka < 1000) (h : gStq G a ka ci i b kk = some (o, Gf)) (k9 : ∀ G' : gH, G'.1 = G.1 → G'.2.1 = G.2.1 → kk G' = some (o, Gf) → Y V M fr o Gf (pc + 1) L st G') : Y V M fr o Gf pc L (.ref b :: .int i :: .ref a :: st) G := by
  obtain ⟨n, f, he, h⟩ := gAqW_inv h
  try dsimp only at h
  split at h
  · next hi =>
    obtain ⟨c0, vs, hb, hm, h⟩ := gOb_inv h
    have k8 := k9 (gUp G a (zQ ka n (va_up f i.toNatClampNeg (some b)))) rfl rfl h
    exact ⟨k8.1, Z.aastC hd ht hc hca hka hb hm he (gIn_in hi) k8.2⟩
  · cases h
theorem Y.aastA {a b ka kb t0 t1 : Nat} {E nm : String} {ty1 : FieldType} {i : Int32} {kk : gH → gR} (hd : decode M.2.1 pc = .ok (.aastore, 1)) (ht : V.2.2.2.1[t0]? = some (ka, .object E)) (ht1 : V.2.2.2.1[t1]? = some (kb, ty1)) (hnm : "[" ++ ty1.toString = nm) (hca : Cond.castable nm E ∈ zT) (hka : ka < 1000) (h : gStA G a ka kb i b kk = some (o, Gf)) (k9 : ∀ G' : gH, G'.1 = G.1 → G'.2.1 = G.2.1 → kk G' = some (o, Gf) → Y V M fr o Gf (pc + 1) L st G') : Y V M fr o Gf pc L (.ref b :: .int i :: .ref a :: st) G := by
  obtain ⟨n, f, he, h⟩ := gAqW_inv h
  try dsimp only at h
  split at h
  · next hi =>
    obtain ⟨c0, n9, f9, hb, hm, h⟩ := gAr_inv h
    have k8 := k9 (gUp G a (zQ ka n (va_up f i.toNatClampNeg (some b)))) rfl rfl h
    exact ⟨k8.1, Z.aastA hd ht ht1 hnm hca hka hb hm he (gIn_in hi) k8.2⟩
  · cases h
theorem Y.castO {a ci idx : Nat} {r : vw_C} {k : gR} (hd : decode M.2.1 pc = .ok (.checkcast idx, 3)) (hrc : V.2.2.1[ci]? = some r) (hlk : Cond.classLink M.1.cls idx r.1 ∈ zT) (h : gCaO G a ci k = some (o, Gf)) (kk : k = some (o, Gf) → Y V M fr o Gf (pc + 3) L (.ref a :: st) G) : Y V M fr o Gf pc L (.ref a :: st) G := by
  obtain ⟨c0, vs, hb, hm, h⟩ := gOb_inv h
  have k8 := kk h
  exact ⟨k8.1, Z.castO hd hrc hlk hb hm k8.2⟩
theorem Y.castA {a ka t0 idx : Nat} {nm : String} {ty : FieldType} {k : gR} (hd : decode M.2.1 pc = .ok (.checkcast idx, 3)) (ht : V.2.2.2.1[t0]? = some (ka, ty)) (hnm : "[" ++ ty.toString = nm) (hlk : Cond.classLink M.1.cls idx nm ∈ zT) (h : gCaA G a ka k = some (o, Gf)) (kk : k = some (o, Gf) → Y V M fr o Gf (pc + 3) L (.ref a :: st) G) : Y V M fr o Gf pc L (.ref a :: st) G := by
  obtain ⟨c0, n, f, hb, hm, h⟩ := gAr_inv h
  have k8 := kk h
  exact ⟨k8.1, Z.castA hd ht hnm hlk hb hm k8.2⟩
theorem Y.castQ {a ka t0 idx : Nat} {nm : String} {ty : FieldType} {k : gR} (hd : decode M.2.1 pc = .ok (.checkcast idx, 3)) (ht : V.2.2.2.1[t0]? = some (ka, ty)) (hnm : "[" ++ ty.toString = nm) (hlk : Cond.classLink M.1.cls idx nm ∈ zT) (h : gCaQ G a ka k = some (o, Gf)) (kk : k = some (o, Gf) → Y V M fr o Gf (pc + 3) L (.ref a :: st) G) : Y V M fr o Gf pc L (.ref a :: st) G := by
  obtain ⟨c0, n, f, hb, hm, h⟩ := gAq_inv h
  have k8 := kk h
  exact ⟨k8.1, Z.castA hd ht hnm hlk hb hm k8.2⟩
theorem Y.new {ci N idx : Nat} {fs : List Value} {kk : Nat → gH → gR} (hn : zNc V.2.2.1 M.1.cls idx ci N) (hci : ci < 1000) (hfs : zBlank V.2.2.1 ci fs) (hd : decode M.2.1 pc = .ok (.new idx, 3)) (h : gNewO G ci N fs kk = some (o, Gf)) (k9 : ∀ (a : Nat) (G' : gH), kk a G' = some (o, Gf) → Y V M fr o Gf (pc + 3) L (.ref a :: st) G') : Y V M fr o Gf pc L st G := by
  have k8 := k9 _ _ h
  obtain ⟨⟨g1, g2⟩, k8⟩ := k8
  have e1 : (gNew G N (.inr (ci, fs))).2.1 = G.2.1 + 1 := rfl
  have e2 : (gNew G N (.inr (ci, fs))).1 = G.1 + N := rfl
  rw [e1] at g1 k8
  rw [e2] at g2 k8
  refine ⟨⟨by omega, by omega⟩, ?_⟩
  have k7 := Z.new hn hci hfs hd k8
  rw [show Gf.2.1 - (G.2.1 + 1) + 1 = Gf.2.1 - G.2.1 by omega, show Gf.1 - (G.1 + N) + N = Gf.1 - G.1 by omega] at k7
  exact k7
theorem Y.newa {at_ : ArrayType} {ka t0 : Nat} {n : Int32} {kk : Nat → gH → gR} (hw : Cond.arrayClass (newarray.typeOf at_) ∈ zT) (ht : V.2.2.2.1[t0]? = some (ka, newarray.typeOf at_)) (hka : ka < 1000) (hdef : defaultValue (newarray.typeOf at_) = .int 0) (hb : componentBytes (newarray.typeOf at_) ≤ 8) (hd : decode M.2.1 pc = .ok (.newarray at_, 2)) (h : gNewA G ka n kk = some (o, Gf)) (k9 : ∀ (a : Nat) (G' : gH), kk a G' = some (o, Gf) → Y V M fr o Gf (pc + 2) L (.ref a :: st) G') : Y V M fr o Gf pc L (.int n :: st) G := by
  unfold gNewA at h
  split at h
  · next hc =>
    have k8 := k9 _ _ h
    obtain ⟨⟨g1, g2⟩, k8⟩ := k8
    have e1 : (gNew G n.toNatClampNeg (zI ka n.toNatClampNeg (fun _ => 0))).2.1 = G.2.1 + 1 := rfl
    have e2 : (gNew G n.toNatClampNeg (zI ka n.toNatClampNeg (fun _ => 0))).1 = G.1 + n.toNatClampNeg := rfl
    rw [e1] at g1 k8
    rw [e2] at g2 k8
    refine ⟨⟨by omega, by omega⟩, ?_⟩
    have k7 := Z.newa hw ht hka hdef hb hd hc.1 rfl hc.2 k8
    rw [show Gf.2.1 - (G.2.1 + 1) + 1 = Gf.2.1 - G.2.1 by omega, show Gf.1 - (G.1 + n.toNatClampNeg) + n.toNatClampNeg = Gf.1 - G.1 by omega] at k7
    exact k7
  · cases h
theorem Y.newq {ka t0 idx : Nat} {C1 : String} {n : Int32} {kk : Nat → gH → gR} (hw : Cond.arrayOver (.object C1) ∈ zT) (hlk : Cond.classLink M.1.cls idx C1 ∈ zT) (ht : V.2.2.2.1[t0]? = some (ka, .object C1)) (hka : ka < 1000) (hd : decode M.2.1 pc = .ok (.anewarray idx, 3)) (h : gNewQ G ka n kk = some (o, Gf)) (k9 : ∀ (a : Nat) (G' : gH), kk a G' = some (o, Gf) → Y V M fr o Gf (pc + 3) L (.ref a :: st) G') : Y V M fr o Gf pc L (.int n :: st) G := by
  unfold gNewQ at h
  split at h
  · next hc =>
    have k8 := k9 _ _ h
    obtain ⟨⟨g1, g2⟩, k8⟩ := k8
    have e1 : (gNew G n.toNatClampNeg (zQ ka n.toNatClampNeg (fun _ => none))).2.1 = G.2.1 + 1 := rfl
    have e2 : (gNew G n.toNatClampNeg (zQ ka n.toNatClampNeg (fun _ => none))).1 = G.1 + n.toNatClampNeg := rfl
    rw [e1] at g1 k8
    rw [e2] at g2 k8
    refine ⟨⟨by omega, by omega⟩, ?_⟩
    have k7 := Z.newq hw hlk ht hka hd hc.1 rfl hc.2 k8
    rw [show Gf.2.1 - (G.2.1 + 1) + 1 = Gf.2.1 - G.2.1 by omega, show Gf.1 - (G.1 + n.toNatClampNeg) + n.toNatClampNeg = Gf.1 - G.1 by omega] at k7
    exact k7
  · cases h
theorem Y.iret {v : Int32} (hr : M.2.2.2 = some .int) (hd : decode M.2.1 pc = .ok (.ireturn, 1)) (h : rI v G = some (o, Gf)) : Y V M fr o Gf pc L [.int v] G := by
  obtain ⟨rfl, rfl⟩ := Prod.mk.inj (Option.some.inj h)
  refine ⟨gLe.rfl', Z.room (Nat.le_refl _) (Nat.zero_le _) (Nat.zero_le _) (Z.iret (st := []) (mc := 0) (ms := 0) hr rfl hd ⟨rfl, rfl⟩)⟩
theorem Y.zret {v : Int32} (hr : M.2.2.2 = some .boolean) (hd : decode M.2.1 pc = .ok (.ireturn, 1)) (h : rZ v G = some (o, Gf)) : Y V M fr o Gf pc L [.int v] G := by
  unfold rZ at h
  split at h
  · next hv =>
    obtain ⟨rfl, rfl⟩ := Prod.mk.inj (Option.some.inj h)
    exact ⟨gLe.rfl', Z.room (Nat.le_refl _) (Nat.zero_le _) (Nat.zero_le _) (Z.iret (st := []) (mc := 0) (ms := 0) hr (by rcases hv with rfl | rfl <;> rfl) hd ⟨rfl, rfl⟩)⟩
  · cases h
theorem Y.iret1 {v : Int32} {ty : FieldType} (hr : M.2.2.2 = some ty) (hn : narrow ty (.int v) = .int v) (hd : decode M.2.1 pc = .ok (.ireturn, 1)) (h : rI v G = some (o, Gf)) : Y V M fr o Gf pc L [.int v] G := by
  obtain ⟨rfl, rfl⟩ := Prod.mk.inj (Option.some.inj h)
  refine ⟨gLe.rfl', Z.room (Nat.le_refl _) (Nat.zero_le _) (Nat.zero_le _) (Z.iret (st := []) (mc := 0) (ms := 0) hr hn hd ⟨rfl, rfl⟩)⟩
theorem Y.lret {v : Int64} (hr : M.2.2.2 = some .long) (hd : decode M.2.1 pc = .ok (.lreturn, 1)) (h : rL v G = some (o, Gf)) : Y V M fr o Gf pc L [.long v] G := by
  obtain ⟨rfl, rfl⟩ := Prod.mk.inj (Option.some.inj h)
  refine ⟨gLe.rfl', Z.room (Nat.le_refl _) (Nat.zero_le _) (Nat.zero_le _) (Z.lret (st := []) (mc := 0) (ms := 0) hr hd ⟨rfl, rfl⟩)⟩
theorem Y.aret {a : Nat} {rt : FieldType} (hr : M.2.2.2 = some rt) (hrt : (∃ n, rt = .object n) ∨ ∃ t, rt = .array t) (hd : decode M.2.1 pc = .ok (.areturn, 1)) (h : rA a G = some (o, Gf)) : Y V M fr o Gf pc L [.ref a] G := by
  obtain ⟨rfl, rfl⟩ := Prod.mk.inj (Option.some.inj h)
  refine ⟨gLe.rfl', Z.room (Nat.le_refl _) (Nat.zero_le _) (Nat.zero_le _) (Z.aret (st := []) (mc := 0) (ms := 0) hr hrt (Or.inr ⟨a, rfl⟩) hd ⟨rfl, rfl⟩)⟩
theorem Y.vret  (hr : M.2.2.2 = none) (hd : decode M.2.1 pc = .ok (.return_, 1)) (h : rV G = some (o, Gf)) : Y V M fr o Gf pc L [] G := by
  obtain ⟨rfl, rfl⟩ := Prod.mk.inj (Option.some.inj h)
  refine ⟨gLe.rfl', Z.room (Nat.le_refl _) (Nat.zero_le _) (Nat.zero_le _) (Z.vret (st := []) (mc := 0) (ms := 0) hr hd ⟨rfl, rfl⟩)⟩
theorem b_inv {x : gR} {k : Option Value → gH → gR} (P : gR) (hP : P = match x with
  | some (.inr v, G) => k v G
  | some (.inl E, G) => some (.inl E, G)
  | none => none) (h : P = some (o, Gf)) : (∃ v G1, x = some (.inr v, G1) ∧ k v G1 = some (o, Gf)) ∨ (∃ E, o = .inl E ∧ x = some (.inl E, Gf)) := by
  rw [hP] at h
  match x, h with
  | some (.inr v, G1), h => exact Or.inl ⟨v, G1, rfl, h⟩
  | some (.inl E, G1), h =>
    obtain ⟨rfl, rfl⟩ := Prod.mk.inj (Option.some.inj h)
    exact Or.inr ⟨E, rfl, rfl⟩
theorem bI_eq (x : gR) (k : Int32 → gH → gR) : bI x k = match x with
  | some (.inr v, G) => (match v with | some (.int w) => k w G | _ => none)
  | some (.inl E, G) => some (.inl E, G)
  | none => none := by
  match x with
  | none => rfl
  | some (.inl E, G) => rfl
  | some (.inr none, G) => rfl
  | some (.inr (some v), G) => cases v <;> rfl
theorem bL_eq (x : gR) (k : Int64 → gH → gR) : bL x k = match x with
  | some (.inr v, G) => (match v with | some (.long w) => k w G | _ => none)
  | some (.inl E, G) => some (.inl E, G)
  | none => none := by
  match x with
  | none => rfl
  | some (.inl E, G) => rfl
  | some (.inr none, G) => rfl
  | some (.inr (some v), G) => cases v <;> rfl
theorem bA_eq (x : gR) (k : Nat → gH → gR) : bA x k = match x with
  | some (.inr v, G) => (match v with | some (.ref w) => k w G | _ => none)
  | some (.inl E, G) => some (.inl E, G)
  | none => none := by
  match x with
  | none => rfl
  | some (.inl E, G) => rfl
  | some (.inr none, G) => rfl
  | some (.inr (some v), G) => cases v <;> rfl
theorem bV_eq (x : gR) (k : gH → gR) : bV x k = match x with
  | some (.inr v, G) => (match v with | none => k G | _ => none)
  | some (.inl E, G) => some (.inl E, G)
  | none => none := by
  match x with
  | none => rfl
  | some (.inl E, G) => rfl
  | some (.inr none, G) => rfl
  | some (.inr (some v), G) => rfl
/-- what a call's rule has to bring: out of the callee's contract and what comes behind -/
def yCall (V : zV) (M : zM) (fr : Nat) (y : zM) (pc : Nat) (L : zLs) (st0 st : List Value) (G : zH) (As : List Value) (fr9 : Nat) : Prop :=
  ∀ (Q Qy : Option Value → zH → Prop) (QX Qyx : String → zH → Prop) (mc ms yc ys : Nat), zMet V y fr9 yc ys As G Qy Qyx → (∀ (E : String) (G' : zH), Qyx E G' → QX E G') → (∀ (v : Option Value) (G' : zH), Qy v G' → Z V M fr Q QX mc ms (pc + 3) L (v.toList ++ st) G') →
    Z V M fr Q QX (mc + yc) (ms + ys) pc L st0 G
theorem yCall_use {y : zM} {st0 As : List Value} {fr9 : Nat} {x : gR} (hc : yCall V M fr y pc L st0 st G.2 As fr9) (hm : gMet V y fr9 As G x)
    (h : (∃ v G1, x = some (.inr v, G1) ∧ Y V M fr o Gf (pc + 3) L (v.toList ++ st) G1) ∨ (∃ E, o = .inl E ∧ x = some (.inl E, Gf))) : Y V M fr o Gf pc L st0 G := by
  rcases h with ⟨v, G1, hx, ⟨g1, g2⟩, k⟩ | ⟨E, ho, hx⟩
  · obtain ⟨⟨g3, g4⟩, m⟩ := hm _ _ hx
    refine ⟨⟨by omega, by omega⟩, ?_⟩
    have k7 := hc (gQ o Gf) _ (gX o Gf) _ _ _ _ _ m (fun E G' hq => by cases hq.1) (fun v' G' hq => by
      obtain ⟨hq1, hq2⟩ := hq
      cases hq1
      subst hq2
      exact k)
    rw [show Gf.2.1 - G1.2.1 + (G1.2.1 - G.2.1) = Gf.2.1 - G.2.1 by omega, show Gf.1 - G1.1 + (G1.1 - G.1) = Gf.1 - G.1 by omega] at k7
    exact k7
  · obtain ⟨g, m⟩ := hm _ _ hx
    refine ⟨g, ?_⟩
    have k7 := hc (gQ o Gf) _ (gX o Gf) _ 0 0 _ _ m (fun E' G' hq => by
      obtain ⟨hq1, hq2⟩ := hq
      cases hq1
      exact ⟨ho, hq2⟩) (fun v' G' hq => by cases hq.1)
    rw [Nat.zero_add, Nat.zero_add] at k7
    exact k7
theorem Y.callI {y : zM} {st0 As : List Value} {fr9 : Nat} {x : gR} {kk : Int32 → gH → gR} (hc : yCall V M fr y pc L st0 st G.2 As fr9) (hm : gMet V y fr9 As G x) (h : bI x kk = some (o, Gf)) (k9 : ∀ (w : Int32) (G1 : gH), x = some (.inr (some (.int w)), G1) → kk w G1 = some (o, Gf) → Y V M fr o Gf (pc + 3) L (.int w :: st) G1) : Y V M fr o Gf pc L st0 G := by
  refine yCall_use hc hm ?_
  rcases b_inv _ (bI_eq x kk) h with ⟨v, G1, hx, hk⟩ | h
  · refine Or.inl ⟨v, G1, hx, ?_⟩
    split at hk
    · next w => exact k9 w G1 hx hk
    · cases hk
  · exact Or.inr h
theorem Y.callL {y : zM} {st0 As : List Value} {fr9 : Nat} {x : gR} {kk : Int64 → gH → gR} (hc : yCall V M fr y pc L st0 st G.2 As fr9) (hm : gMet V y fr9 As G x) (h : bL x kk = some (o, Gf)) (k9 : ∀ (w : Int64) (G1 : gH), x = some (.inr (some (.long w)), G1) → kk w G1 = some (o, Gf) → Y V M fr o Gf (pc + 3) L (.long w :: st) G1) : Y V M fr o Gf pc L st0 G := by
  refine yCall_use hc hm ?_
  rcases b_inv _ (bL_eq x kk) h with ⟨v, G1, hx, hk⟩ | h
  · refine Or.inl ⟨v, G1, hx, ?_⟩
    split at hk
    · next w => exact k9 w G1 hx hk
    · cases hk
  · exact Or.inr h
theorem Y.callA {y : zM} {st0 As : List Value} {fr9 : Nat} {x : gR} {kk : Nat → gH → gR} (hc : yCall V M fr y pc L st0 st G.2 As fr9) (hm : gMet V y fr9 As G x) (h : bA x kk = some (o, Gf)) (k9 : ∀ (w : Nat) (G1 : gH), x = some (.inr (some (.ref w)), G1) → kk w G1 = some (o, Gf) → Y V M fr o Gf (pc + 3) L (.ref w :: st) G1) : Y V M fr o Gf pc L st0 G := by
  refine yCall_use hc hm ?_
  rcases b_inv _ (bA_eq x kk) h with ⟨v, G1, hx, hk⟩ | h
  · refine Or.inl ⟨v, G1, hx, ?_⟩
    split at hk
    · next w => exact k9 w G1 hx hk
    · cases hk
  · exact Or.inr h
theorem Y.callN {y : zM} {st0 As : List Value} {fr9 : Nat} {x : gR} {kk : gH → gR} (hc : yCall V M fr y pc L st0 st G.2 As fr9) (hm : gMet V y fr9 As G x) (h : bV x kk = some (o, Gf)) (k9 : ∀ (G1 : gH), x = some (.inr none, G1) → kk G1 = some (o, Gf) → Y V M fr o Gf (pc + 3) L st G1) : Y V M fr o Gf pc L st0 G := by
  refine yCall_use hc hm ?_
  rcases b_inv _ (bV_eq x kk) h with ⟨v, G1, hx, hk⟩ | h
  · refine Or.inl ⟨v, G1, hx, ?_⟩
    split at hk
    · exact k9 G1 hx hk
    · cases hk
  · exact Or.inr h
theorem yC.Vi {y : zM} {n fr9 idx b c0 ci : Nat} {As : List Value} {r : vw_C} {fs : List Value} {H : zH} (hV : zOk V) (hc : zCb y n) (hlk : Cond.methodLink M.1.cls idx y.1 ∈ zT) (hin : Cond.instanceMethod y.1 ∈ zT) (hrc : V.2.2.1[ci]? = some r) (hsl : Cond.selects r.1 y.1 y.1 ∈ zT)
    (hd : decode M.2.1 pc = .ok (.invokevirtual idx, 3)) (hn : As.length = n) (hLl : L.length = M.2.2.1) (hcat : (st.map fun v => v.category).sum ≤ 8) (hf9 : fr9 + 1 ≤ fr) (hG : H.2 b = some (.inr (c0, fs))) (hcm : c0 % 1000 = ci) : yCall V M fr y pc L (As.reverse ++ .ref b :: st) st H (.ref b :: As) fr9 :=
  fun _ _ _ _ _ _ _ _ hy hx kk => Z.callV hV hy hc hlk hin hrc hsl hG hcm hd hn hLl hcat hf9 hx kk
theorem yC.S {y : zM} {n fr9 idx : Nat} {As : List Value} {H : zH} (hV : zOk V) (hc : zCb y n) (hlk : Cond.methodLink M.1.cls idx y.1 ∈ zT) (hst : Cond.static y.1 ∈ zT)
    (hd : decode M.2.1 pc = .ok (.invokestatic idx, 3)) (hn : As.length = n) (hLl : L.length = M.2.2.1) (hcat : (st.map fun v => v.category).sum ≤ 8) (hf9 : fr9 + 1 ≤ fr) : yCall V M fr y pc L (As.reverse ++ st) st H As fr9 :=
  fun _ _ _ _ _ _ _ _ hy hx kk => Z.callS hV hy hc hlk hst hd hn hLl hcat hf9 hx kk
theorem yC.SN {y : zM} {n fr9 idx : Nat} {As : List Value} {H : zH} {host : String} (hV : zOk V) (hc : zCb y n) (hlk : Cond.methodLinkNest M.1.cls idx y.1 host ∈ zT) (hst : Cond.static y.1 ∈ zT)
    (hd : decode M.2.1 pc = .ok (.invokestatic idx, 3)) (hn : As.length = n) (hLl : L.length = M.2.2.1) (hcat : (st.map fun v => v.category).sum ≤ 8) (hf9 : fr9 + 1 ≤ fr) : yCall V M fr y pc L (As.reverse ++ st) st H As fr9 :=
  fun _ _ _ _ _ _ _ _ hy hx kk => Z.callSN hV hy hc hlk hst hd hn hLl hcat hf9 hx kk
theorem yC.I {y : zM} {n fr9 idx b : Nat} {As : List Value} {H : zH} (hV : zOk V) (hc : zCb y n) (hlk : Cond.methodLink M.1.cls idx y.1 ∈ zT) (hin : Cond.instanceMethod y.1 ∈ zT) (hnm : y.1.name = "<init>") (hrt : y.2.2.2 = none)
    (hd : decode M.2.1 pc = .ok (.invokespecial idx, 3)) (hn : As.length = n) (hLl : L.length = M.2.2.1) (hcat : (st.map fun v => v.category).sum ≤ 8) (hf9 : fr9 + 1 ≤ fr) : yCall V M fr y pc L (As.reverse ++ .ref b :: st) st H (.ref b :: As) fr9 :=
  fun _ _ _ _ _ _ _ _ hy hx kk => Z.callI hV hy hc hlk hin hnm hrt hd hn hLl hcat hf9 hx kk
theorem yC.IN {y : zM} {n fr9 idx b : Nat} {As : List Value} {H : zH} {host : String} (hV : zOk V) (hc : zCb y n) (hlk : Cond.methodLinkNest M.1.cls idx y.1 host ∈ zT) (hin : Cond.instanceMethod y.1 ∈ zT) (hnm : y.1.name = "<init>") (hrt : y.2.2.2 = none)
    (hd : decode M.2.1 pc = .ok (.invokespecial idx, 3)) (hn : As.length = n) (hLl : L.length = M.2.2.1) (hcat : (st.map fun v => v.category).sum ≤ 8) (hf9 : fr9 + 1 ≤ fr) : yCall V M fr y pc L (As.reverse ++ .ref b :: st) st H (.ref b :: As) fr9 :=
  fun _ _ _ _ _ _ _ _ hy hx kk => Z.callIN hV hy hc hlk hin hnm hrt hd hn hLl hcat hf9 hx kk
theorem yC.SU {y : zM} {n fr9 idx b c0 ci : Nat} {As : List Value} {r : vw_C} {fs : List Value} {H : zH} (hV : zOk V) (hc : zCb y n) (hlk : Cond.methodLink M.1.cls idx y.1 ∈ zT) (hsm : Cond.sameMethod y.1.cls y.1.cls y.1.name y.1.desc ∈ zT) (hsu : Cond.superclass M.1.cls y.1.cls ∈ zT) (hin : Cond.instanceMethod y.1 ∈ zT) (hni : y.1.name ≠ "<init>") (hrc : V.2.2.1[ci]? = some r)
    (hd : decode M.2.1 pc = .ok (.invokespecial idx, 3)) (hn : As.length = n) (hLl : L.length = M.2.2.1) (hcat : (st.map fun v => v.category).sum ≤ 8) (hf9 : fr9 + 1 ≤ fr) (hG : H.2 b = some (.inr (c0, fs))) (hcm : c0 % 1000 = ci) : yCall V M fr y pc L (As.reverse ++ .ref b :: st) st H (.ref b :: As) fr9 :=
  fun _ _ _ _ _ _ _ _ hy hx kk => Z.callSU hV hy hc hlk hsm hsu hin hni hrc hG hcm hd hn hLl hcat hf9 hx kk
theorem Y.throwS {cls text : String} {names : List String} {ik is ic : Nat} (hV : zOk V) (hO : ∀ (U : State) (H : Heap), V.2.2.2.2.2 U H → vx_Zq Bundle.tN "UNASSIGNED_STACK" Bundle.steD (zA V) U H ∧ vx_Zq Bundle.tN "SUPPRESSED_SENTINEL" Bundle.listD (zA V) U H ∧ ∃ sa : Nat, vk_R M.1.cls is text sa U)
    (hcls : Bundle.fit cls = true) (hnames : ∀ n ∈ names, Bundle.fit n = true) (w1 : Cond.classLink M.1.cls ik cls ∈ zT) (w2 : Cond.initialized cls ∈ zT) (w3 : ∀ w ∈ vx_atS M.1.cls ic cls names, w ∈ zT) (hgood : ∀ w ∈ Cond.classLink M.1.cls ik cls :: Cond.initialized cls :: vx_atS M.1.cls ic cls names, vx_ot w = true)
    (hn : names.length ≤ 2) (hfr : 6 ≤ fr) (hLl : L.length = M.2.2.1) (hcat : (st.map fun v => v.category).sum ≤ 8)
    (d0 : decode M.2.1 pc = .ok (.new ik, 3)) (d3 : decode M.2.1 (pc + 3) = .ok (.dup, 1)) (d4 : decode M.2.1 (pc + 4) = .ok (.ldc is, 2)) (d6 : decode M.2.1 (pc + 6) = .ok (.invokespecial ic, 3)) (d9 : decode M.2.1 (pc + 9) = .ok (.athrow, 1))
    (h : gThrow cls G = some (o, Gf)) : Y V M fr o Gf pc L st G := by
  obtain ⟨rfl, rfl⟩ := Prod.mk.inj (Option.some.inj h)
  refine ⟨⟨Nat.le_add_right _ _, Nat.le_add_right _ _⟩, ?_⟩
  have k7 := Z.throwS (V := V) (M := M) (fr := fr) (Q := gQ (.inl cls) (G.1 + 6, (G.2.1 + 1, G.2.2))) (QX := gX (.inl cls) (G.1 + 6, (G.2.1 + 1, G.2.2))) (mc := 0) (ms := 0) (pc := pc) (L := L) (st := st) (G := G.2) hV hO hcls hnames w1 w2 w3 hgood hn hfr hLl hcat d0 d3 d4 d6 d9 (fun n hn9 => ⟨rfl, Nat.add_le_add_right hn9 1, rfl⟩)
  rw [show (G.2.1 + 1) - G.2.1 = 0 + 1 by omega, show (G.1 + 6) - G.1 = 0 + 6 by omega]
  exact k7
end YRules
