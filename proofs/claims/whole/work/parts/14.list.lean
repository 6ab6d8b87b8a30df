/-! ArrayList on the abstract heap. -/
/-- every entry lies below the heap's size -/
def gWf (G : gH) : Prop := ∀ (q : Nat) (e : zE), G.2.2 q = some e → q < G.2.1
theorem gWf.up {G : gH} (h : gWf G) {a : Nat} {e : zE} (ha : a < G.2.1) : gWf (gUp G a e) := by
  intro q e' hq
  simp only [gUp, zUp] at hq ⊢
  by_cases hqa : q = a
  · rw [hqa]; exact ha
  · rw [if_neg hqa] at hq; exact h q e' hq
theorem gWf.new {G : gH} (h : gWf G) {n : Nat} {e : zE} : gWf (gNew G n e) := by
  intro q e' hq
  simp only [gNew, zNew] at hq ⊢
  by_cases hqa : q = G.2.1
  · omega
  · rw [if_neg hqa] at hq
    have := h q e' hq
    omega
theorem gUp_at {G : gH} {a : Nat} {e : zE} : (gUp G a e).2.2 a = some e := by simp [gUp, zUp]
theorem gUp_ne {G : gH} {a q : Nat} {e : zE} (h : q ≠ a) : (gUp G a e).2.2 q = G.2.2 q := by simp [gUp, zUp, h]
theorem gNew_at {G : gH} {n : Nat} {e : zE} : (gNew G n e).2.2 G.2.1 = some e := by simp [gNew, zNew]
theorem gNew_ne {G : gH} {n q : Nat} {e : zE} (h : q ≠ G.2.1) : (gNew G n e).2.2 q = G.2.2 q := by simp [gNew, zNew, h]
/-- from G to G' nothing but what P names has changed; k more cells of n slots at most -/
def gFr (P : Nat → Prop) (k n : Nat) (G G' : gH) : Prop := G.2.1 ≤ G'.2.1 ∧ G'.2.1 ≤ G.2.1 + k ∧ G.1 ≤ G'.1 ∧ G'.1 ≤ G.1 + n ∧ (gWf G → gWf G') ∧ ∀ q, q < G.2.1 → ¬ P q → G'.2.2 q = G.2.2 q
theorem gFr.refl {P : Nat → Prop} {G : gH} : gFr P 0 0 G G := ⟨Nat.le_refl _, Nat.le_refl _, Nat.le_refl _, Nat.le_refl _, fun h => h, fun _ _ _ => rfl⟩
theorem gFr.trans {P : Nat → Prop} {k n k' n' : Nat} {G G1 G2 : gH} (h1 : gFr P k n G G1) (h2 : gFr P k' n' G1 G2) : gFr P (k + k') (n + n') G G2 := by
  obtain ⟨a1, a2, a3, a4, a5, a6⟩ := h1
  obtain ⟨b1, b2, b3, b4, b5, b6⟩ := h2
  exact ⟨by omega, by omega, by omega, by omega, fun h => b5 (a5 h), fun q hq hp => (b6 q (by omega) hp).trans (a6 q hq hp)⟩
theorem gFr.mono {P P' : Nat → Prop} {k n k' n' : Nat} {G G' : gH} (h : gFr P k n G G') (hP : ∀ q, q < G.2.1 → P q → P' q) (hk : k ≤ k') (hn : n ≤ n') : gFr P' k' n' G G' := by
  obtain ⟨a1, a2, a3, a4, a5, a6⟩ := h
  exact ⟨a1, by omega, a3, by omega, a5, fun q hq hp => a6 q hq (fun z => hp (hP q hq z))⟩
theorem gFr.up {G : gH} {a : Nat} {e : zE} (ha : a < G.2.1) : gFr (fun q => q = a) 0 0 G (gUp G a e) :=
  ⟨Nat.le_refl _, Nat.le_refl _, Nat.le_refl _, Nat.le_refl _, fun h => h.up ha, fun q _ hp => gUp_ne hp⟩
theorem gFr.new {P : Nat → Prop} {G : gH} {n : Nat} {e : zE} : gFr P 1 n G (gNew G n e) :=
  ⟨Nat.le_succ _, Nat.le_refl _, Nat.le_add_right _ _, Nat.le_refl _, fun h => h.new, fun q hq _ => gNew_ne (by omega)⟩
-- the combinators at known cells
theorem gOb_of {G : gH} {a ci c : Nat} {fs : List Value} {k : List Value → gR} (h : G.2.2 a = some (.inr (c, fs))) (hc : c % 1000 = ci) : gOb G a ci k = k fs := by
  unfold gOb; rw [h]; simp [hc]
theorem gFA_of {G : gH} {a ci c j v : Nat} {fs : List Value} {k : Nat → gR} (h : G.2.2 a = some (.inr (c, fs))) (hc : c % 1000 = ci) (hv : fs[j]? = some (.ref v)) : gFA G a ci j k = k v := by
  unfold gFA; rw [gOb_of h hc]; simp only [hv]
theorem gFI_of {G : gH} {a ci c j : Nat} {v : Int32} {fs : List Value} {k : Int32 → gR} (h : G.2.2 a = some (.inr (c, fs))) (hc : c % 1000 = ci) (hv : fs[j]? = some (.int v)) : gFI G a ci j k = k v := by
  unfold gFI; rw [gOb_of h hc]; simp only [hv]
theorem gPut_of {G : gH} {a ci j : Nat} {v : Value} {fs : List Value} {k : gH → gR} (h : G.2.2 a = some (.inr (ci, fs))) (hj : j < fs.length) : gPut G a ci j v k = k (gUp G a (.inr (ci, fs.set j v))) := by
  unfold gPut gObW; rw [h]; simp [hj]
theorem gLenq_of {G : gH} {a ka c n : Nat} {f : Nat → Option Nat} {k : Int32 → gR} (h : G.2.2 a = some (zQ c n f)) (hc : c % 1000 = ka) : gLenq G a ka k = k (nI n) := by
  unfold gLenq gAq; rw [h]; simp [hc]
theorem gIn_nI {i n : Nat} (hi : i < n) (hn : n < 2 ^ 31) : gIn (nI i) n = true := by
  simp only [gIn, nI_clamp (Nat.lt_trans hi hn), Bool.not_eq_true', Bool.or_eq_false_iff, decide_eq_false_iff_not]
  exact ⟨nI_pos (Nat.lt_trans hi hn), by omega⟩
theorem gLdq_of {G : gH} {a ka c n i b : Nat} {f : Nat → Option Nat} {k0 : gR} {k1 : Nat → gR} (h : G.2.2 a = some (zQ c n f)) (hc : c % 1000 = ka) (hi : i < n) (hn : n < 2 ^ 31) (hb : f i = some b) : gLdq G a ka (nI i) k0 k1 = k1 b := by
  unfold gLdq gAq; rw [h]; simp [hc, gIn_nI hi hn, nI_clamp (Nat.lt_trans hi hn), hb]
theorem gLdq_no {G : gH} {a ka c n i : Nat} {f : Nat → Option Nat} {k0 : gR} {k1 : Nat → gR} (h : G.2.2 a = some (zQ c n f)) (hc : c % 1000 = ka) (hi : i < n) (hn : n < 2 ^ 31) (hb : f i = none) : gLdq G a ka (nI i) k0 k1 = k0 := by
  unfold gLdq gAq; rw [h]; simp [hc, gIn_nI hi hn, nI_clamp (Nat.lt_trans hi hn), hb]
theorem gStX_of {G : gH} {a n i b : Nat} {f : Nat → Option Nat} {k : gH → gR} (h : G.2.2 a = some (zQ 103 n f)) (hi : i < n) (hn : n < 2 ^ 31) (hb : (∃ fs, G.2.2 b = some (.inr (9, fs))) ∨ ∃ m g, G.2.2 b = some (zI 100 m g)) : gStX G a 103 (nI i) b k = k (gUp G a (zQ 103 n (va_up f i (some b)))) := by
  rcases hb with ⟨fs, hb⟩ | ⟨m, g, hb⟩
  · unfold gStX; rw [hb]
    simp only [gStq, gAqW, h, if_true, gIn_nI hi hn, nI_clamp (Nat.lt_trans hi hn)]
    rw [gOb_of hb rfl]
  · unfold gStX; rw [hb]
    simp only [gStA, gAqW, h, if_true, gIn_nI hi hn, nI_clamp (Nat.lt_trans hi hn), gAr, hb]
theorem gStN_of {G : gH} {a n i : Nat} {f : Nat → Option Nat} {k : gH → gR} (h : G.2.2 a = some (zQ 103 n f)) (hi : i < n) (hn : n < 2 ^ 31) : gStN G a 103 (nI i) k = k (gUp G a (zQ 103 n (va_up f i none))) := by
  unfold gStN gAqW; rw [h]; simp [gIn_nI hi hn, nI_clamp (Nat.lt_trans hi hn)]
/-- what may lie in a list -/
def gEl (G : gH) (b : Nat) : Prop := (∃ fs, G.2.2 b = some (.inr (9, fs))) ∨ ∃ m g, G.2.2 b = some (zI 100 m g)
/-- the list at a holds xs; its row of cells is at e -/
def isAL (w : Nat → Nat) (G : gH) (a e : Nat) (xs : List Nat) : Prop := ∃ (m : Int32) (κ cap : Nat) (f : Nat → Option Nat), G.2.2 a = some (.inr (9, [.ref e, .int (nI xs.length), .int m])) ∧ G.2.2 e = some (zQ κ cap f) ∧ ((κ = 103 ∧ 0 < cap) ∨ (κ = 1103 ∧ e = w 0 ∧ cap = 0)) ∧ xs.length ≤ cap ∧ cap ≤ 1000 ∧ (∀ i, i < xs.length → f i = xs[i]?) ∧ ∀ i, i < xs.length → ∀ y, f i = some y → gEl G y
theorem ckIx {i n : Nat} {G : gH} (hi : i < n) (hn : n < 2 ^ 31) : f_OB_checkIndex G (nI i) (nI n) = rI (nI i) G := by
  simp only [f_OB_checkIndex, f_PC_checkIndex]
  rw [if_neg (nI_pos (Nat.lt_trans hi hn)), if_pos (nI_lt hi hn)]
  rfl
theorem al_size {w : Nat → Nat} {G : gH} {a e : Nat} {xs : List Nat} (h : isAL w G a e xs) : f_AL_size G a = rI (nI xs.length) G := by
  obtain ⟨m, κ, cap, f, h1, -⟩ := h
  unfold f_AL_size
  exact gFI_of h1 rfl rfl
theorem al_get {w : Nat → Nat} {G : gH} {a e i x : Nat} {xs : List Nat} (h : isAL w G a e xs) (hx : xs[i]? = some x) : f_AL_get G a (nI i) = rA x G := by
  obtain ⟨m, κ, cap, f, h1, h2, h3, h4, h5, h6, h7⟩ := h
  have hi : i < xs.length := (List.getElem?_eq_some_iff.mp hx).1
  unfold f_AL_get
  rw [gFI_of h1 rfl rfl, ckIx hi (by omega)]
  show gOb G a 9 _ = _
  rw [gOb_of h1 rfl]
  unfold f_AL_elementData
  rw [gFA_of h1 rfl rfl, gLdq_of h2 (by rcases h3 with ⟨rfl, -⟩ | ⟨rfl, -⟩ <;> rfl) (by omega) (by omega) ((h6 i hi).trans hx)]
  rfl
theorem gNewQ_of {G : gH} {ka n : Nat} {k : Nat → gH → gR} (hn : n ≤ 60000000) : gNewQ G ka (nI n) k = k G.2.1 (gNew G n (zQ ka n (fun _ => none))) := by
  have e : (nI n).toNatClampNeg = n := nI_clamp (by omega)
  unfold gNewQ
  rw [if_pos ⟨nI_pos (by omega), by rw [e]; exact hn⟩, e]
theorem gElt_of {G : gH} {y : Nat} (h : gEl G y) : gElt G y = true := by
  rcases h with ⟨fs, h⟩ | ⟨m, g, h⟩ <;> simp [gElt, h]
theorem gCpQ_of {G : gH} {a0 a1 c n0 n1 sp dp n : Nat} {f g : Nat → Option Nat} {k : gH → gR} (h0 : G.2.2 a0 = some (zQ c n0 f)) (hc : c % 1000 = 103) (h1 : G.2.2 a1 = some (zQ 103 n1 g)) (b0 : sp + n ≤ n0) (b1 : dp + n ≤ n1) (hn0 : n0 < 2 ^ 30) (hn1 : n1 < 2 ^ 30)
    (hel : ∀ i, i < n → ∀ y, f (sp + i) = some y → gEl G y) : gCpQ G a0 (nI sp) a1 (nI dp) (nI n) k = k (gUp G a1 (zQ 103 n1 (va_cpy f g sp dp n))) := by
  have e1 : (nI sp).toNatClampNeg = sp := nI_clamp (by omega)
  have e2 : (nI dp).toNatClampNeg = dp := nI_clamp (by omega)
  have e3 : (nI n).toNatClampNeg = n := nI_clamp (by omega)
  have hbnd : gBnd (nI sp) (nI dp) (nI n) n0 n1 = true := by
    unfold gBnd
    rw [e1, e2, e3, decide_eq_true (nI_pos (n := sp) (by omega)), decide_eq_true (nI_pos (n := dp) (by omega)), decide_eq_true (nI_pos (n := n) (by omega)), decide_eq_true b0, decide_eq_true b1]
    rfl
  have hall : ((List.range n).all fun i => gEltO G (f (sp + i))) = true := by
    rw [List.all_eq_true]
    intro i hi
    cases hy : f (sp + i) with
    | none => rfl
    | some y => exact gElt_of (hel i (List.mem_range.mp hi) y hy)
  unfold gCpQ gAq gAqW
  rw [h0, h1]
  simp only [hc, if_true, e1, e2, e3]
  rw [if_pos ⟨hbnd, hall⟩]
theorem gEl.fr {P : Nat → Prop} {k n : Nat} {G G' : gH} (h : gFr P k n G G') (hw : gWf G) {y : Nat} (hy : gEl G y) (hp : ¬ P y) : gEl G' y := by
  obtain ⟨-, -, -, -, -, h6⟩ := h
  rcases hy with ⟨fs, hy⟩ | ⟨m, g, hy⟩
  · exact Or.inl ⟨fs, by rw [h6 y (hw _ _ hy) hp]; exact hy⟩
  · exact Or.inr ⟨m, g, by rw [h6 y (hw _ _ hy) hp]; exact hy⟩
/-- a list or a row of ints stays one, whatever is written into it -/
def gKeep (G G' : gH) : Prop := ∀ y, gEl G y → gEl G' y
theorem gCaQ_of {G : gH} {a ka c n : Nat} {f : Nat → Option Nat} {k : gR} (h : G.2.2 a = some (zQ c n f)) (hc : c % 1000 = ka) : gCaQ G a ka k = k := by
  unfold gCaQ gAq; rw [h]; simp [hc]
theorem gr_len : ∀ len, len < 41 → 0 < len → (nI len + (if (nI (len + 1) - nI len) < (nI len >>> ((nI 1) &&& 31)) then (nI len >>> ((nI 1) &&& 31)) else (nI (len + 1) - nI len))) = nI (len + (if 1 < len / 2 then len / 2 else 1)) := by decide +kernel
theorem al_grow {w : Nat → Nat} {G : gH} {a e cap κ : Nat} {len : Nat} {m : Int32} {f : Nat → Option Nat} (hw : gWf G) (h1 : G.2.2 a = some (.inr (9, [.ref e, .int (nI len), .int m]))) (h2 : G.2.2 e = some (zQ κ cap f)) (h3 : (κ = 103 ∧ 0 < cap) ∨ (κ = 1103 ∧ e = w 0 ∧ cap = 0)) (hl : len = cap) (hb : len ≤ 40)
    (hel : ∀ i, i < len → ∀ y, f i = some y → gEl G y) :
    ∃ (cap' : Nat) (f' : Nat → Option Nat) (G' : gH), len < cap' ∧ cap' ≤ 61 ∧ (∀ i, i < len → f' i = f i) ∧ f_AL_grow1 w G a = rA G.2.1 G' ∧ G'.2.2 a = some (.inr (9, [.ref G.2.1, .int (nI len), .int m])) ∧ G'.2.2 G.2.1 = some (zQ 103 cap' f') ∧ gFr (fun q => q = a) 1 61 G G' := by
  subst hl
  have ha : a < G.2.1 := hw _ _ h1
  have he : e < G.2.1 := hw _ _ h2
  have hk : κ % 1000 = 103 := by rcases h3 with ⟨rfl, -⟩ | ⟨rfl, -⟩ <;> rfl
  have e1 : nI len + nI 1 = nI (len + 1) := nI_add _ _
  have hgrow : ∃ (cap' : Nat) (f' : Nat → Option Nat) (G' : gH), len < cap' ∧ cap' ≤ 61 ∧ (∀ i, i < len → f' i = f i) ∧ f_AL_grow2 w G a (nI (len + 1)) = rA G.2.1 G' ∧ G'.2.2 a = some (.inr (9, [.ref G.2.1, .int (nI len), .int m])) ∧ G'.2.2 G.2.1 = some (zQ 103 cap' f') ∧ gFr (fun q => q = a) 1 61 G G' := by
    unfold f_AL_grow2
    rw [gFA_of h1 rfl rfl, gLenq_of h2 hk]
    by_cases hz : len = 0
    · subst hz
      have hew : e = w 0 := by
        rcases h3 with ⟨-, h⟩ | ⟨-, h, -⟩
        · omega
        · exact h
      refine ⟨10, fun _ => none, gUp (gNew G 10 (zQ 103 10 (fun _ => none))) a (.inr (9, [.ref G.2.1, .int (nI 0), .int m])), by omega, by omega, fun i hi => by omega, ?_, gUp_at, ?_, ?_⟩
      · rw [if_neg (show ¬ (0 : Int32) < nI 0 by decide), gFA_of h1 rfl rfl, if_pos hew, show (if nI 10 < nI (0 + 1) then nI (0 + 1) else nI 10) = nI 10 by decide, gNewQ_of (by omega), gPut_of (fs := [.ref e, .int (nI 0), .int m]) (by rw [gNew_ne (by omega)]; exact h1) (by simp)]
        rfl
      · rw [gUp_ne (by omega)]; exact gNew_at
      · refine ((gFr.new (P := fun q => q = a)).trans (gFr.up (G := gNew G 10 _) (a := a) (by show a < G.2.1 + 1; omega))).mono (fun q _ h => h) (by omega) (by omega)
    · have hκ : κ = 103 := by
        rcases h3 with ⟨h, -⟩ | ⟨-, -, h⟩
        · exact h
        · omega
      subst hκ
      generalize hc : len + (if 1 < len / 2 then len / 2 else 1) = cap'
      have hc1 : len < cap' := by rw [← hc]; split <;> omega
      have hc2 : cap' ≤ 61 := by rw [← hc]; split <;> omega
      have hgl := gr_len len (by omega) (by omega)
      rw [hc] at hgl
      refine ⟨cap', va_cpy f (fun _ => none) 0 0 len, gUp (gUp (gNew G cap' (zQ 103 cap' (fun _ => none))) G.2.1 (zQ 103 cap' (va_cpy f (fun _ => none) 0 0 len))) a (.inr (9, [.ref G.2.1, .int (nI len), .int m])), hc1, hc2, ?_, ?_, gUp_at, ?_, ?_⟩
      · intro i hi
        simp [va_cpy, hi]
      · rw [if_pos (show (0 : Int32) < nI len from nI_lt (a := 0) (by omega) (by omega))]
        unfold f_AS_newLength
        rw [hgl, if_neg (show ¬ nI cap' ≤ nI 0 from nI_ge (by omega) (by omega)), if_neg (nI_nlt (by omega) (by decide))]
        show gFA G a 9 0 _ = _
        rw [gFA_of h1 rfl rfl]
        unfold f_AR_copyOf2
        rw [gCaQ_of h2 rfl]
        unfold f_AR_copyOf3
        rw [if_pos rfl, gNewQ_of (by omega), gLenq_of (c := 103) (n := len) (f := f) (by rw [gNew_ne (by omega)]; exact h2) rfl, if_neg (nI_nlt (by omega) (by omega))]
        rw [gCpQ_of (c := 103) (n0 := len) (n1 := cap') (f := f) (g := fun _ => none) (by rw [gNew_ne (by omega)]; exact h2) rfl gNew_at (by omega) (by omega) (by omega) (by omega) (fun i hi y hy => ?_)]
        · show gPut _ a 9 0 _ _ = _
          rw [gPut_of (fs := [.ref e, .int (nI len), .int m]) (by rw [gUp_ne (by omega), gNew_ne (by omega)]; exact h1) (by simp)]
          rfl
        · rw [Nat.zero_add] at hy
          exact (hel i hi y hy).fr (gFr.new (P := fun _ => False)) hw (fun h => h)
      · rw [gUp_ne (by omega)]; exact gUp_at
      · refine ⟨Nat.le_succ _, Nat.le_refl _, Nat.le_add_right _ _, Nat.add_le_add_left hc2 _, fun h => ?_, fun q hq hp => ?_⟩
        · exact (h.new.up (Nat.lt_succ_self _)).up (Nat.lt_succ_of_lt ha)
        · rw [gUp_ne hp, gUp_ne (by omega), gNew_ne (by omega)]
  obtain ⟨cap', f', G', g1, g2, g3, g4, g5⟩ := hgrow
  refine ⟨cap', f', G', g1, g2, g3, ?_, g5⟩
  unfold f_AL_grow1
  rw [gFI_of h1 rfl rfl, gOb_of h1 rfl, e1, g4]
  rfl
theorem zQ_inj {c c' n n' : Nat} {f f' : Nat → Option Nat} (h : some (zQ c n f) = some (zQ c' n' f')) : c = c' ∧ n = n' ∧ f = f' := by cases h; exact ⟨rfl, rfl, rfl⟩
/-- writing into a row of references leaves what may lie in lists -/
theorem gEl.upQ {G : gH} {e n c : Nat} {f g : Nat → Option Nat} (he : G.2.2 e = some (zQ c n f)) {y : Nat} (hy : gEl G y) : gEl (gUp G e (zQ 103 n g)) y := by
  rcases hy with ⟨fs, hz⟩ | ⟨k, g, hz⟩
  · by_cases hze : y = e
    · subst hze; rw [he] at hz; cases hz
    · exact Or.inl ⟨fs, by rw [gUp_ne hze]; exact hz⟩
  · by_cases hze : y = e
    · subst hze; rw [he] at hz; cases hz
    · exact Or.inr ⟨k, g, by rw [gUp_ne hze]; exact hz⟩
theorem gEl.upA {G : gH} {a : Nat} {fs fs' : List Value} (ha : G.2.2 a = some (.inr (9, fs))) {y : Nat} (hy : gEl G y) : gEl (gUp G a (.inr (9, fs'))) y := by
  by_cases hze : y = a
  · exact Or.inl ⟨fs', by rw [hze]; exact gUp_at⟩
  · rcases hy with ⟨fs, hz⟩ | ⟨k, g, hz⟩
    · exact Or.inl ⟨fs, by rw [gUp_ne hze]; exact hz⟩
    · exact Or.inr ⟨k, g, by rw [gUp_ne hze]; exact hz⟩
theorem al_set {w : Nat → Nat} {G : gH} {a e i x y : Nat} {xs : List Nat} (h : isAL w G a e xs) (hx : xs[i]? = some x) (hy : gEl G y) : ∃ (cap : Nat) (f : Nat → Option Nat), G.2.2 e = some (zQ 103 cap f) ∧ f_AL_set G a (nI i) y = rA x (gUp G e (zQ 103 cap (va_up f i (some y)))) := by
  obtain ⟨m, κ, cap, f, h1, h2, h3, h4, h5, h6, h7⟩ := h
  have hi : i < xs.length := (List.getElem?_eq_some_iff.mp hx).1
  have hκ : κ = 103 := by
    rcases h3 with ⟨h, -⟩ | ⟨-, -, h⟩
    · exact h
    · omega
  subst hκ
  refine ⟨cap, f, h2, ?_⟩
  unfold f_AL_set
  rw [gFI_of h1 rfl rfl, ckIx hi (by omega)]
  show gOb G a 9 _ = _
  rw [gOb_of h1 rfl]
  unfold f_AL_elementData
  rw [gFA_of h1 rfl rfl, gLdq_of h2 rfl (by omega) (by omega) ((h6 i hi).trans hx)]
  show gFA G a 9 0 _ = _
  rw [gFA_of h1 rfl rfl, gStX_of h2 (by omega) (by omega) hy]
/-- .. and what the list is then -/
theorem isAL.set {w : Nat → Nat} {G : gH} {a e i y cap : Nat} {f : Nat → Option Nat} {xs : List Nat} (h : isAL w G a e xs) (hi : i < xs.length) (hy : gEl G y) (he : G.2.2 e = some (zQ 103 cap f)) (hae : a ≠ e) : isAL w (gUp G e (zQ 103 cap (va_up f i (some y)))) a e (xs.set i y) := by
  obtain ⟨m, κ, cap', f', h1, h2, h3, h4, h5, h6, h7⟩ := h
  obtain ⟨rfl, rfl, rfl⟩ := zQ_inj (h2.symm.trans he)
  refine ⟨m, 103, cap', va_up f' i (some y), ?_, gUp_at, Or.inl ⟨rfl, by omega⟩, by simpa using h4, h5, ?_, ?_⟩
  · rw [gUp_ne hae, List.length_set]; exact h1
  · intro j hj
    rw [List.length_set] at hj
    by_cases hji : j = i
    · subst hji
      simp [va_up, List.getElem?_set_self hi]
    · simp only [va_up, if_neg hji]
      rw [h6 j hj, List.getElem?_set_ne (fun q => hji q.symm)]
  · intro j hj z hz
    rw [List.length_set] at hj
    by_cases hji : j = i
    · subst hji
      simp [va_up] at hz
      subst hz
      exact hy.upQ h2
    · simp only [va_up, if_neg hji] at hz
      exact (h7 j hj z hz).upQ h2
/-- put at the end -/
theorem al_add {w : Nat → Nat} {G : gH} {a e y : Nat} {xs : List Nat} (hw : gWf G) (h : isAL w G a e xs) (hl : xs.length ≤ 40) (hy : gEl G y) (hae : a ≠ e) :
    ∃ (e' : Nat) (G' : gH), f_AL_add2 w G a y = rI 1 G' ∧ isAL w G' a e' (xs ++ [y]) ∧ a ≠ e' ∧ ((e' = e ∧ ∃ cap f, G.2.2 e = some (zQ 103 cap f)) ∨ e' = G.2.1) ∧ gFr (fun q => q = a ∨ (q = e ∧ e' = e)) 1 61 G G' ∧ ∀ z, gEl G z → gEl G' z := by
  obtain ⟨m, κ, cap, f, h1, h2, h3, h4, h5, h6, h7⟩ := h
  have ha : a < G.2.1 := hw _ _ h1
  have he : e < G.2.1 := hw _ _ h2
  have hk : κ % 1000 = 103 := by rcases h3 with ⟨rfl, -⟩ | ⟨rfl, -⟩ <;> rfl
  generalize hG2 : gUp G a (.inr (9, [.ref e, .int (nI xs.length), .int (m + nI 1)])) = G2
  have b1 : G2.2.2 a = some (.inr (9, [.ref e, .int (nI xs.length), .int (m + nI 1)])) := by rw [← hG2]; exact gUp_at
  have b2 : G2.2.2 e = some (zQ κ cap f) := by rw [← hG2, gUp_ne (fun q => hae q.symm)]; exact h2
  have bw : gWf G2 := by rw [← hG2]; exact hw.up ha
  have bs : G2.2.1 = G.2.1 := by rw [← hG2]; rfl
  have bel : ∀ z, gEl G z → gEl G2 z := fun z hz => by rw [← hG2]; exact hz.upA h1
  have e1 : nI xs.length + nI 1 = nI (xs.length + 1) := nI_add _ _
  have start : ∀ r, f_AL_add3 w G2 a y e (nI xs.length) = r → f_AL_add2 w G a y = bV r fun G8 => rZ (nI 1) G8 := by
    intro r hr
    unfold f_AL_add2
    have hset : gUp G a (.inr (9, ([.ref e, .int (nI xs.length), .int m] : List Value).set 2 (.int (m + nI 1)))) = G2 := hG2
    rw [gFI_of h1 rfl rfl, gPut_of (ci := 9) h1 (by simp), hset, gFA_of b1 rfl rfl, gFI_of b1 rfl rfl, gOb_of b1 rfl, hr]
  by_cases hfull : xs.length = cap
  · obtain ⟨cap', f', G3, c1, c2, c3, c4, c5, c6, c7⟩ := al_grow (w := w) bw b1 b2 h3 hfull (by omega) (fun i hi z hz => bel z (h7 i hi z hz))
    rw [bs] at c4 c5 c6
    have cel : ∀ z, gEl G z → gEl G3 z := fun z hz => by
      by_cases hza : z = a
      · exact Or.inl ⟨_, by rw [hza]; exact c5⟩
      · exact (bel z hz).fr c7 bw hza
    have hna : a ≠ G.2.1 := by omega
    have c5' : (gUp G3 G.2.1 (zQ 103 cap' (va_up f' xs.length (some y)))).2.2 a = some (.inr (9, [.ref G.2.1, .int (nI xs.length), .int (m + nI 1)])) := by rw [gUp_ne hna]; exact c5
    refine ⟨G.2.1, gUp (gUp G3 G.2.1 (zQ 103 cap' (va_up f' xs.length (some y)))) a (.inr (9, [.ref G.2.1, .int (nI (xs.length + 1)), .int (m + nI 1)])), ?_, ?_, hna, Or.inr rfl, ?_, ?_⟩
    · rw [start _ rfl]
      unfold f_AL_add3
      rw [gLenq_of b2 hk, hfull, if_pos rfl, gOb_of b1 rfl, c4]
      show bV (gStX G3 G.2.1 103 (nI cap) y _) _ = _
      rw [← hfull, gStX_of c6 c1 (by omega) (cel y hy), gPut_of (ci := 9) c5' (by simp), e1]
      exact rZ_1
    · refine ⟨m + nI 1, 103, cap', va_up f' xs.length (some y), ?_, ?_, Or.inl ⟨rfl, by omega⟩, by simp; omega, by omega, ?_, ?_⟩
      · rw [gUp_at, List.length_append]; rfl
      · rw [gUp_ne (fun q => hna q.symm)]; exact gUp_at
      · intro i hi
        rw [List.length_append, List.length_singleton] at hi
        by_cases hix : i = xs.length
        · subst hix; simp [va_up]
        · simp only [va_up, if_neg hix]
          rw [c3 i (by omega), h6 i (by omega), List.getElem?_append_left (by omega)]
      · intro i hi z hz
        rw [List.length_append, List.length_singleton] at hi
        have hz2 : gEl G z := by
          by_cases hix : i = xs.length
          · subst hix; simp [va_up] at hz; subst hz; exact hy
          · simp only [va_up, if_neg hix] at hz
            rw [c3 i (by omega)] at hz
            exact h7 i (by omega) z hz
        exact ((cel z hz2).upQ c6).upA c5'
    · obtain ⟨d1, d2, d3, d4, d5, d6⟩ := c7
      have hs0 : G2.1 = G.1 := by rw [← hG2]; rfl
      rw [bs] at d1 d2
      rw [hs0] at d3 d4
      refine ⟨d1, d2, d3, d4, fun h => ((d5 bw).up (d5 bw _ _ c6)).up (d5 bw _ _ c5), fun q hq hp => ?_⟩
      have hqa : q ≠ a := fun z => hp (Or.inl z)
      rw [gUp_ne hqa, gUp_ne (by omega), d6 q (by omega) hqa, ← hG2, gUp_ne hqa]
    · intro z hz
      exact ((cel z hz).upQ c6).upA c5'
  · have hlt : xs.length < cap := by omega
    have hκ : κ = 103 := by
      rcases h3 with ⟨h, -⟩ | ⟨-, -, h⟩
      · exact h
      · omega
    subst hκ
    refine ⟨e, gUp (gUp G2 e (zQ 103 cap (va_up f xs.length (some y)))) a (.inr (9, [.ref e, .int (nI (xs.length + 1)), .int (m + nI 1)])), ?_, ?_, hae, Or.inl ⟨rfl, cap, f, h2⟩, ?_, ?_⟩
    · rw [start _ rfl]
      unfold f_AL_add3
      rw [gLenq_of b2 rfl, if_neg (fun q => hfull ((nI_eq (by omega) (by omega)).mp q)), gStX_of b2 hlt (by omega) (bel y hy), gPut_of (ci := 9) (fs := [.ref e, .int (nI xs.length), .int (m + nI 1)]) (by rw [gUp_ne hae]; exact b1) (by simp), e1]
      exact rZ_1
    · refine ⟨m + nI 1, 103, cap, va_up f xs.length (some y), ?_, ?_, Or.inl ⟨rfl, by omega⟩, by simp; omega, h5, ?_, ?_⟩
      · rw [gUp_at, List.length_append]; rfl
      · rw [gUp_ne (fun q => hae q.symm)]; exact gUp_at
      · intro i hi
        rw [List.length_append, List.length_singleton] at hi
        by_cases hix : i = xs.length
        · subst hix; simp [va_up]
        · simp only [va_up, if_neg hix]
          rw [h6 i (by omega), List.getElem?_append_left (by omega)]
      · intro i hi z hz
        rw [List.length_append, List.length_singleton] at hi
        have hz2 : gEl G z := by
          by_cases hix : i = xs.length
          · subst hix; simp [va_up] at hz; subst hz; exact hy
          · simp only [va_up, if_neg hix] at hz
            exact h7 i (by omega) z hz
        exact ((bel z hz2).upQ b2).upA (by rw [gUp_ne hae]; exact b1)
    · rw [← hG2]
      refine ⟨Nat.le_refl _, Nat.le_succ _, Nat.le_refl _, Nat.le_add_right _ _, fun h => ((h.up ha).up he).up ha, fun q hq hp => ?_⟩
      rw [gUp_ne (fun z => hp (Or.inl z)), gUp_ne (fun z => hp (Or.inr ⟨z, rfl⟩)), gUp_ne (fun z => hp (Or.inl z))]
    · intro z hz
      exact ((bel z hz).upQ b2).upA (by rw [gUp_ne hae]; exact b1)
/-- takes the one at i out -/
theorem al_remove {w : Nat → Nat} {G : gH} {a e i x : Nat} {xs : List Nat} (hw : gWf G) (h : isAL w G a e xs) (hx : xs[i]? = some x) (hae : a ≠ e) :
    ∃ G' : gH, f_AL_remove G a (nI i) = rA x G' ∧ isAL w G' a e (xs.eraseIdx i) ∧ gFr (fun q => q = a ∨ q = e) 0 0 G G' ∧ ∀ z, gEl G z → gEl G' z := by
  obtain ⟨m, κ, cap, f, h1, h2, h3, h4, h5, h6, h7⟩ := h
  have hi : i < xs.length := (List.getElem?_eq_some_iff.mp hx).1
  have ha : a < G.2.1 := hw _ _ h1
  have he : e < G.2.1 := hw _ _ h2
  have hκ : κ = 103 := by
    rcases h3 with ⟨h, -⟩ | ⟨-, -, h⟩
    · exact h
    · omega
  subst hκ
  generalize hG2 : gUp G a (.inr (9, [.ref e, .int (nI xs.length), .int (m + nI 1)])) = G2
  have b1 : G2.2.2 a = some (.inr (9, [.ref e, .int (nI xs.length), .int (m + nI 1)])) := by rw [← hG2]; exact gUp_at
  have b2 : G2.2.2 e = some (zQ 103 cap f) := by rw [← hG2, gUp_ne (fun q => hae q.symm)]; exact h2
  have bel : ∀ z, gEl G z → gEl G2 z := fun z hz => by rw [← hG2]; exact hz.upA h1
  have e1 : nI xs.length - nI 1 = nI (xs.length - 1) := pk_sub (by omega)
  have e2 : nI i + nI 1 = nI (i + 1) := nI_add _ _
  have e3 : nI (xs.length - 1) - nI i = nI (xs.length - 1 - i) := pk_sub (by omega)
  generalize hfn : va_up (va_cpy f f (i + 1) i (xs.length - 1 - i)) (xs.length - 1) none = fn
  have key : ∃ G' : gH, f_AL_fastRemove G a e (nI i) = rV G' ∧ G'.2.2 a = some (.inr (9, [.ref e, .int (nI (xs.length - 1)), .int (m + nI 1)])) ∧ G'.2.2 e = some (zQ 103 cap fn) ∧ gFr (fun q => q = a ∨ q = e) 0 0 G G' ∧ ∀ z, gEl G z → gEl G' z := by
    have hset : gUp G a (.inr (9, ([.ref e, .int (nI xs.length), .int m] : List Value).set 2 (.int (m + nI 1)))) = G2 := hG2
    unfold f_AL_fastRemove
    rw [gFI_of h1 rfl rfl, gPut_of (ci := 9) h1 (by simp), hset, gFI_of b1 rfl rfl, e1]
    by_cases hlast : xs.length - 1 ≤ i
    · have hi1 : i = xs.length - 1 := by omega
      have hf0 : va_up f (xs.length - 1) none = fn := by
        rw [← hfn]
        congr 1
        funext k
        simp only [va_cpy]
        rw [if_neg (by omega)]
      refine ⟨gUp (gUp G2 a (.inr (9, [.ref e, .int (nI (xs.length - 1)), .int (m + nI 1)]))) e (zQ 103 cap fn), ?_, ?_, gUp_at, ?_, ?_⟩
      · rw [if_pos (nI_le (by omega) (by omega)), gPut_of (ci := 9) b1 (by simp), gStN_of (n := cap) (f := f) (by rw [gUp_ne (fun q => hae q.symm)]; exact b2) (by omega) (by omega), hf0]
        rfl
      · rw [gUp_ne hae]; exact gUp_at
      · rw [← hG2]
        refine ⟨Nat.le_refl _, Nat.le_refl _, Nat.le_refl _, Nat.le_refl _, fun h => ((h.up ha).up ha).up he, fun q hq hp => ?_⟩
        rw [gUp_ne (fun z => hp (Or.inr z)), gUp_ne (fun z => hp (Or.inl z)), gUp_ne (fun z => hp (Or.inl z))]
      · intro z hz
        exact ((bel z hz).upA b1).upQ (c := 103) (n := cap) (f := f) (by rw [gUp_ne (fun q => hae q.symm)]; exact b2)
    · refine ⟨gUp (gUp (gUp G2 e (zQ 103 cap (va_cpy f f (i + 1) i (xs.length - 1 - i)))) a (.inr (9, [.ref e, .int (nI (xs.length - 1)), .int (m + nI 1)]))) e (zQ 103 cap fn), ?_, ?_, gUp_at, ?_, ?_⟩
      · rw [if_neg (nI_ge (by omega) (by omega)), e2, e3, gCpQ_of b2 rfl b2 (by omega) (by omega) (by omega) (by omega) (fun k hk y hy => bel y (h7 (i + 1 + k) (by omega) y hy)),
          gPut_of (ci := 9) (fs := [.ref e, .int (nI xs.length), .int (m + nI 1)]) (by rw [gUp_ne hae]; exact b1) (by simp), gStN_of (n := cap) (f := va_cpy f f (i + 1) i (xs.length - 1 - i)) (by rw [gUp_ne (fun q => hae q.symm)]; exact gUp_at) (by omega) (by omega), hfn]
        rfl
      · rw [gUp_ne hae]; exact gUp_at
      · rw [← hG2]
        refine ⟨Nat.le_refl _, Nat.le_refl _, Nat.le_refl _, Nat.le_refl _, fun h => (((h.up ha).up he).up ha).up he, fun q hq hp => ?_⟩
        rw [gUp_ne (fun z => hp (Or.inr z)), gUp_ne (fun z => hp (Or.inl z)), gUp_ne (fun z => hp (Or.inr z)), gUp_ne (fun z => hp (Or.inl z))]
      · intro z hz
        exact (((bel z hz).upQ b2).upA (by rw [gUp_ne hae]; exact b1)).upQ (c := 103) (n := cap) (f := va_cpy f f (i + 1) i (xs.length - 1 - i)) (by rw [gUp_ne (fun q => hae q.symm)]; exact gUp_at)
  obtain ⟨G', k1, k2, k3, k4, k5⟩ := key
  have hlen : (xs.eraseIdx i).length = xs.length - 1 := List.length_eraseIdx_of_lt hi
  have hget : ∀ j, j < xs.length - 1 → fn j = f (if j < i then j else j + 1) := by
    intro j hj
    rw [← hfn]
    simp only [va_up, va_cpy]
    rw [if_neg (by omega)]
    by_cases hji : j < i
    · rw [if_neg (by omega), if_pos hji]
    · rw [if_pos (by omega), if_neg hji]
      congr 1; omega
  refine ⟨G', ?_, ⟨m + nI 1, 103, cap, fn, by rw [hlen]; exact k2, k3, Or.inl ⟨rfl, by omega⟩, by omega, h5, ?_, ?_⟩, k4, k5⟩
  · unfold f_AL_remove
    rw [gFI_of h1 rfl rfl, ckIx hi (by omega)]
    show gFA G a 9 0 _ = _
    rw [gFA_of h1 rfl rfl, gLdq_of h2 rfl (by omega) (by omega) ((h6 i hi).trans hx), gOb_of h1 rfl, k1]
    rfl
  · intro j hj
    rw [hlen] at hj
    rw [hget j hj, List.getElem?_eraseIdx]
    by_cases hji : j < i
    · rw [if_pos hji, if_pos hji]; exact h6 j (by omega)
    · rw [if_neg hji, if_neg hji]; exact h6 (j + 1) (by omega)
  · intro j hj z hz
    rw [hlen] at hj
    rw [hget j hj] at hz
    exact k5 z (h7 _ (by split <;> omega) z hz)

theorem al_insT {w : Nat → Nat} {G : gH} {a e i y cap : Nat} {xs : List Nat} {m : Int32} {f : Nat → Option Nat} (hw : gWf G) (h1 : G.2.2 a = some (.inr (9, [.ref e, .int (nI xs.length), .int m]))) (h2 : G.2.2 e = some (zQ 103 cap f)) (hlt : xs.length < cap) (hcap : cap ≤ 1000)
    (h6 : ∀ j, j < xs.length → f j = xs[j]?) (h7 : ∀ j, j < xs.length → ∀ z, f j = some z → gEl G z) (hi : i ≤ xs.length) (hy : gEl G y) (hae : a ≠ e) :
    ∃ G' : gH, (gCpQ G e (nI i) e (nI i + nI 1) (nI xs.length - nI i) fun G18 => gStX G18 e 103 (nI i) y fun G19 => gPut G19 a 9 1 (.int (nI xs.length + nI 1)) fun G20 => rV G20) = rV G' ∧ isAL w G' a e (xs.insertIdx i y) ∧ gFr (fun q => q = a ∨ q = e) 0 0 G G' ∧ ∀ z, gEl G z → gEl G' z := by
  have ha : a < G.2.1 := hw _ _ h1
  have he : e < G.2.1 := hw _ _ h2
  have e1 : nI xs.length + nI 1 = nI (xs.length + 1) := nI_add _ _
  have e2 : nI i + nI 1 = nI (i + 1) := nI_add _ _
  have e3 : nI xs.length - nI i = nI (xs.length - i) := pk_sub (by omega)
  generalize hfn : va_up (va_cpy f f i (i + 1) (xs.length - i)) i (some y) = fn
  have c2 : (gUp G e (zQ 103 cap (va_cpy f f i (i + 1) (xs.length - i)))).2.2 e = some (zQ 103 cap (va_cpy f f i (i + 1) (xs.length - i))) := gUp_at
  have c1 : (gUp (gUp G e (zQ 103 cap (va_cpy f f i (i + 1) (xs.length - i)))) e (zQ 103 cap fn)).2.2 a = some (.inr (9, [.ref e, .int (nI xs.length), .int m])) := by
    rw [gUp_ne hae, gUp_ne hae]; exact h1
  have hlen : (xs.insertIdx i y).length = xs.length + 1 := List.length_insertIdx_of_le_length hi y
  have keep : ∀ z, gEl G z → gEl (gUp (gUp (gUp G e (zQ 103 cap (va_cpy f f i (i + 1) (xs.length - i)))) e (zQ 103 cap fn)) a (.inr (9, [.ref e, .int (nI (xs.length + 1)), .int m]))) z := fun z hz =>
    ((hz.upQ h2).upQ c2).upA c1
  have hget : ∀ j, j < xs.length + 1 → fn j = if j < i then f j else if j = i then some y else f (j - 1) := by
    intro j hj
    rw [← hfn]
    simp only [va_up, va_cpy]
    by_cases hji : j = i
    · rw [if_pos hji, if_neg (by omega), if_pos hji]
    · rw [if_neg hji]
      by_cases hlt' : j < i
      · rw [if_neg (by omega), if_pos hlt']
      · rw [if_pos (by omega), if_neg hlt', if_neg hji]
        congr 1; omega
  refine ⟨_, ?_, ⟨m, 103, cap, fn, ?_, ?_, Or.inl ⟨rfl, by omega⟩, by omega, hcap, ?_, ?_⟩, ?_, keep⟩
  · rw [e2, e3, gCpQ_of h2 rfl h2 (by omega) (by omega) (by omega) (by omega) (fun k hk z hz => h7 (i + k) (by omega) z hz),
      gStX_of c2 (by omega) (by omega) (hy.upQ h2), hfn, gPut_of (ci := 9) c1 (by simp), e1]
    rfl
  · rw [hlen]; exact gUp_at
  · rw [gUp_ne (fun q => hae q.symm)]; exact gUp_at
  · intro j hj
    rw [hlen] at hj
    rw [hget j hj, List.getElem?_insertIdx]
    by_cases hji : j < i
    · rw [if_pos hji, if_pos hji]; exact h6 j (by omega)
    · rw [if_neg hji, if_neg hji]
      by_cases hje : j = i
      · rw [if_pos hje, if_pos hje, if_pos (by omega)]
      · rw [if_neg hje, if_neg hje]; exact h6 (j - 1) (by omega)
  · intro j hj z hz
    rw [hlen] at hj
    rw [hget j hj] at hz
    refine keep z ?_
    by_cases hji : j < i
    · rw [if_pos hji] at hz; exact h7 j (by omega) z hz
    · rw [if_neg hji] at hz
      by_cases hje : j = i
      · rw [if_pos hje] at hz; rw [← Option.some.inj hz]; exact hy
      · rw [if_neg hje] at hz; exact h7 (j - 1) (by omega) z hz
  · refine ⟨Nat.le_refl _, Nat.le_refl _, Nat.le_refl _, Nat.le_refl _, fun h => ((h.up he).up he).up ha, fun q hq hp => ?_⟩
    have hqa : q ≠ a := fun z => hp (Or.inl z)
    have hqe : q ≠ e := fun z => hp (Or.inr z)
    rw [gUp_ne hqa, gUp_ne hqe, gUp_ne hqe]

theorem al_ins {w : Nat → Nat} {G : gH} {a e i y : Nat} {xs : List Nat} (hw : gWf G) (h : isAL w G a e xs) (hl : xs.length ≤ 40) (hi : i ≤ xs.length) (hy : gEl G y) (hae : a ≠ e) :
    ∃ (e' : Nat) (G' : gH), f_AL_add1 w G a (nI i) y = rV G' ∧ isAL w G' a e' (xs.insertIdx i y) ∧ a ≠ e' ∧ ((e' = e ∧ ∃ cap f, G.2.2 e = some (zQ 103 cap f)) ∨ e' = G.2.1) ∧ gFr (fun q => q = a ∨ (q = e ∧ e' = e)) 1 61 G G' ∧ ∀ z, gEl G z → gEl G' z := by
  obtain ⟨m, κ, cap, f, h1, h2, h3, h4, h5, h6, h7⟩ := h
  have ha : a < G.2.1 := hw _ _ h1
  have he : e < G.2.1 := hw _ _ h2
  have hk : κ % 1000 = 103 := by rcases h3 with ⟨rfl, -⟩ | ⟨rfl, -⟩ <;> rfl
  generalize hG2 : gUp G a (.inr (9, [.ref e, .int (nI xs.length), .int (m + nI 1)])) = G2
  have b1 : G2.2.2 a = some (.inr (9, [.ref e, .int (nI xs.length), .int (m + nI 1)])) := by rw [← hG2]; exact gUp_at
  have b2 : G2.2.2 e = some (zQ κ cap f) := by rw [← hG2, gUp_ne (fun q => hae q.symm)]; exact h2
  have bw : gWf G2 := by rw [← hG2]; exact hw.up ha
  have bs : G2.2.1 = G.2.1 := by rw [← hG2]; rfl
  have bel : ∀ z, gEl G z → gEl G2 z := fun z hz => by rw [← hG2]; exact hz.upA h1
  have hchk : f_AL_rangeCheckForAdd G a (nI i) = rV G := by
    unfold f_AL_rangeCheckForAdd
    rw [gFI_of h1 rfl rfl, if_neg (nI_nlt hi (by omega)), if_pos (Int32.not_lt.mp (nI_pos (by omega)))]
  have hset : gUp G a (.inr (9, ([.ref e, .int (nI xs.length), .int m] : List Value).set 2 (.int (m + nI 1)))) = G2 := hG2
  unfold f_AL_add1
  rw [gOb_of h1 rfl, hchk]
  show ∃ (e' : Nat) (G' : gH), gFI G a 9 2 _ = rV G' ∧ _
  rw [gFI_of h1 rfl rfl, gPut_of (ci := 9) h1 (by simp), hset, gFI_of b1 rfl rfl, gFA_of b1 rfl rfl, gLenq_of b2 hk]
  by_cases hfull : xs.length = cap
  · obtain ⟨cap', f', G3, c1, c2, c3, c4, c5, c6, c7⟩ := al_grow (w := w) bw b1 b2 h3 hfull (by omega) (fun j hj z hz => bel z (h7 j hj z hz))
    rw [bs] at c4 c5 c6
    have cel : ∀ z, gEl G z → gEl G3 z := fun z hz => by
      by_cases hza : z = a
      · exact Or.inl ⟨_, by rw [hza]; exact c5⟩
      · exact (bel z hz).fr c7 bw hza
    have hna : a ≠ G.2.1 := by omega
    obtain ⟨d1, d2, d3, d4, d5, d6⟩ := c7
    have hs0 : G2.1 = G.1 := by rw [← hG2]; rfl
    rw [bs] at d1 d2
    rw [hs0] at d3 d4
    obtain ⟨G', k1, k2, k3, k4⟩ := al_insT (w := w) (i := i) (y := y) (d5 bw) c5 c6 c1 (by omega) (fun j hj => (c3 j hj).trans (h6 j hj)) (fun j hj z hz => cel z (h7 j hj z ((c3 j hj).symm.trans hz))) hi (cel y hy) hna
    refine ⟨G.2.1, G', ?_, k2, hna, Or.inr rfl, ?_, fun z hz => k4 z (cel z hz)⟩
    · rw [hfull, if_pos rfl, gOb_of b1 rfl, c4]
      rw [← hfull]
      exact k1
    · obtain ⟨g1, g2, g3, g4, g5, g6⟩ := k3
      refine ⟨by omega, by omega, by omega, by omega, fun _ => g5 (d5 bw), fun q hq hp => ?_⟩
      have hqa : q ≠ a := fun z => hp (Or.inl z)
      rw [g6 q (by omega) (by rintro (z | z) <;> omega), d6 q (by omega) hqa, ← hG2, gUp_ne hqa]
  · have hlt : xs.length < cap := by omega
    have hκ : κ = 103 := by
      rcases h3 with ⟨h, -⟩ | ⟨-, -, h⟩
      · exact h
      · omega
    subst hκ
    obtain ⟨G', k1, k2, k3, k4⟩ := al_insT (w := w) (i := i) (y := y) bw b1 b2 hlt h5 h6 (fun j hj z hz => bel z (h7 j hj z hz)) hi (bel y hy) hae
    refine ⟨e, G', ?_, k2, hae, Or.inl ⟨rfl, cap, f, h2⟩, ?_, fun z hz => k4 z (bel z hz)⟩
    · rw [if_neg (fun q => hfull ((nI_eq (by omega) (by omega)).mp q))]
      exact k1
    · obtain ⟨g1, g2, g3, g4, g5, g6⟩ := k3
      have hs0 : G2.1 = G.1 := by rw [← hG2]; rfl
      rw [bs] at g1 g2
      rw [hs0] at g3 g4
      refine ⟨by omega, by omega, by omega, by omega, fun _ => g5 bw, fun q hq hp => ?_⟩
      have hqa : q ≠ a := fun z => hp (Or.inl z)
      rw [g6 q (by omega) (fun z => hp (z.imp_right (fun y => ⟨y, rfl⟩))), ← hG2, gUp_ne hqa]

/-- a new list: its cell is made by `new`, then `<init>` gives it the empty array -/
theorem al_init {w : Nat → Nat} {G : gH} {a : Nat} {v : Value} {x m : Int32} (hw : gWf G) (h1 : G.2.2 a = some (.inr (9, [v, .int x, .int m]))) (hx : x = nI 0) {f : Nat → Option Nat} (h2 : G.2.2 (w 0) = some (zQ 1103 0 f)) (hae : a ≠ w 0) :
    ∃ G' : gH, f_AL_init w G a = rV G' ∧ isAL w G' a (w 0) [] ∧ gFr (fun q => q = a) 0 0 G G' ∧ ∀ z, gEl G z → gEl G' z := by
  subst hx
  have ha : a < G.2.1 := hw _ _ h1
  have b1 : (gUp G a (.inr (9, [v, .int (nI 0), .int (nI 0)]))).2.2 a = some (.inr (9, [v, .int (nI 0), .int (nI 0)])) := gUp_at
  refine ⟨gUp (gUp G a (.inr (9, [v, .int (nI 0), .int (nI 0)]))) a (.inr (9, [.ref (w 0), .int (nI 0), .int (nI 0)])), ?_, ⟨nI 0, 1103, 0, f, gUp_at, ?_, Or.inr ⟨rfl, rfl, rfl⟩, by simp, by omega, ?_, ?_⟩, ?_, ?_⟩
  · unfold f_AL_init f_AY_init f_AC_init
    show bV (gPut G a 9 2 _ _) _ = _
    rw [gPut_of (ci := 9) h1 (by simp)]
    show gPut (gUp G a (.inr (9, [v, .int (nI 0), .int (nI 0)]))) a 9 0 _ _ = _
    rw [gPut_of (ci := 9) b1 (by simp)]
    rfl
  · rw [gUp_ne (fun q => hae q.symm), gUp_ne (fun q => hae q.symm)]; exact h2
  · intro i hi; simp at hi
  · intro i hi; simp at hi
  · refine ⟨Nat.le_refl _, Nat.le_refl _, Nat.le_refl _, Nat.le_refl _, fun h => (h.up ha).up ha, fun q hq hp => ?_⟩
    rw [gUp_ne hp, gUp_ne hp]
  · intro z hz
    exact (hz.upA h1).upA b1
