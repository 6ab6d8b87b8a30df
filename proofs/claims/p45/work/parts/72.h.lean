section
/-! The class's constructor: cells laid one after another. -/
def pPut (b : Nat) (es : List zE) (s : Nat) (g : Nat → Option zE) : gH := (s, (b + es.length, fun q => if b ≤ q ∧ q < b + es.length then es[q - b]? else g q))
section PP
variable {b s : Nat} {es es' : List zE} {g : Nat → Option zE}
theorem pP_at {j : Nat} {e : zE} (h : es[j]? = some e) : (pPut b es s g).2.2 (b + j) = some e := by
  have hj : j < es.length := (List.getElem?_eq_some_iff.mp h).1
  show (if b ≤ b + j ∧ b + j < b + es.length then es[b + j - b]? else g (b + j)) = _
  rw [if_pos ⟨by omega, by omega⟩, Nat.add_sub_cancel_left, h]
theorem pP_up {j : Nat} {e : zE} (hj : j < es.length) : gUp (pPut b es s g) (b + j) e = pPut b (es.set j e) s g := by
  unfold gUp zUp pPut
  dsimp only
  rw [List.length_set]
  congr 2
  funext q
  by_cases hq : q = b + j
  · subst hq
    rw [if_pos rfl, if_pos ⟨by omega, by omega⟩, Nat.add_sub_cancel_left, List.getElem?_set_self hj]
  · rw [if_neg hq]
    by_cases hb : b ≤ q ∧ q < b + es.length
    · rw [if_pos hb, if_pos hb, List.getElem?_set_ne (by omega)]
    · rw [if_neg hb, if_neg hb]
theorem pP_new {n : Nat} {e : zE} : gNew (pPut b es s g) n e = pPut b (es ++ [e]) (s + n) g := by
  unfold gNew zNew pPut
  dsimp only
  rw [List.length_append, List.length_singleton]
  congr 2
  funext q
  by_cases hq : q = b + es.length
  · subst hq
    rw [if_pos rfl, if_pos ⟨by omega, by omega⟩, Nat.add_sub_cancel_left]
    simp
  · rw [if_neg hq]
    by_cases hb : b ≤ q ∧ q < b + es.length
    · rw [if_pos hb, if_pos ⟨by omega, by omega⟩, List.getElem?_append_left (by omega)]
    · rw [if_neg hb, if_neg (by omega)]
theorem putP {j ci i : Nat} {v : Value} {fs : List Value} {k : gH → gR} (h : es[j]? = some (.inr (ci, fs))) (hi : i < fs.length) (he : es.set j (.inr (ci, fs.set i v)) = es') : gPut (pPut b es s g) (b + j) ci i v k = k (pPut b es' s g) := by
  rw [gPut_of (pP_at h) hi, pP_up (List.getElem?_eq_some_iff.mp h).1, he]
theorem newP {ci N : Nat} {fs : List Value} {k : Nat} {K : Nat → gH → gR} (hk : es.length = k) (he : es ++ [.inr (ci, fs)] = es') : gNewO (pPut b es s g) ci N fs K = K (b + k) (pPut b es' (s + N) g) := by
  unfold gNewO
  rw [pP_new, he, ← hk]
  rfl
theorem newN {k n : Nat} {K : Nat → gH → gR} (hk : es.length = k) (hn : n < 100) (he : es ++ [.inr (2, [.ref (b + (k + 1))]), zI 100 n (fun _ => 0)] = es') : (gNewO (pPut b es s g) 2 1 [.null] fun a G2 => bV (f_N_init G2 a (nI n)) fun G4 => K a G4) = K (b + k) (pPut b es' (s + 1 + n) g) := by
  rw [newP (k := k) (es' := es ++ [.inr (2, [.null])]) hk rfl]
  unfold f_N_init
  have e0 : (0 : Int32) ≤ nI n := nI_le (a := 0) (Nat.zero_le n) (by omega)
  have e1 : (nI n).toNatClampNeg = n := nI_clamp (by omega)
  have e2 : ¬ nI n < 0 := Int32.not_lt.mpr e0
  have hk2 : (pPut b (es ++ [.inr (2, [.null])]) (s + 1) g).2.1 = b + (k + 1) := by
    show b + (es ++ [(Sum.inr (2, [Value.null]) : zE)]).length = _
    rw [List.length_append, hk]
    rfl
  rw [if_pos e0]
  unfold gNewA
  rw [if_pos ⟨e2, by rw [e1]; omega⟩, e1, hk2, pP_new]
  dsimp only
  rw [putP (j := k) (fs := [.null]) (es' := es') ?_ (by decide) ?_, bV_rV]
  · rw [List.append_assoc, List.getElem?_append_right (by omega), hk, Nat.sub_self]; rfl
  · rw [List.append_assoc, List.set_append_right _ _ (by omega), hk, Nat.sub_self, ← he]; rfl
theorem writeP {j n x : Nat} {v : Int32} {f : Nat → Int32} (h1 : es[j]? = some (.inr (2, [.ref (b + (j + 1))]))) (h2 : es[j + 1]? = some (zI 100 n f)) (hx : x < n) (hn : n < 100) (he : es.set (j + 1) (zI 100 n (upd f x v)) = es') : f_N_write (pPut b es s g) (b + j) (nI x) v = rV (pPut b es' s g) := by
  unfold f_N_write
  have e0 : ¬ nI x < 0 := Int32.not_lt.mpr (nI_le (a := 0) (Nat.zero_le x) (by omega))
  have e1 : ¬ nI n ≤ nI x := nI_ge hx (by omega)
  rw [if_neg e0, gFA_of (pP_at h1) rfl rfl]
  unfold gLen gAr
  rw [pP_at h2]
  dsimp only
  rw [if_pos rfl, if_neg e1, gFA_of (pP_at h1) rfl rfl]
  unfold gSt gArW
  rw [pP_at h2]
  dsimp only
  rw [if_pos rfl, if_pos (gIn_of e0 e1 (by omega)), nI_clamp (by omega), pP_up (List.getElem?_eq_some_iff.mp h2).1, he]
end PP
theorem I_init {b s : Nat} {g : Nat → Option zE} : f_I_init (pPut b [.inr (3, [.null, .null, .int 0, .int 0, .int 0]), .inr (1, [.null, .null, .null, .null, .null, .null, .int 0])] s g) (b + 1) = f_I_init_L84 (fun G62 => rV G62) zFu (pPut b [.inr (3, [.null, .null, .int 0, .int 0, .int 0]), .inr (1, [.ref (b + 2), .ref (b + 4), .ref (b + 6), .ref (b + 8), .ref (b + 10), .ref (b + 12), .int 0]), .inr (2, [.ref (b + 3)]), zI 100 62 (fun _ => 0), .inr (2, [.ref (b + 5)]), zI 100 6 (fun _ => 0), .inr (2, [.ref (b + 7)]), zI 100 6 (fun _ => 0), .inr (2, [.ref (b + 9)]), zI 100 6 (fun _ => 0), .inr (2, [.ref (b + 11)]), zI 100 6 (fun _ => 0), .inr (2, [.ref (b + 13)]), zI 100 31 (fun _ => 0)] (s + 123) g) (b + 1) (nI 0) := by
  unfold f_I_init
  rw [newN (k := 2) (n := 62) (es' := [.inr (3, [.null, .null, .int 0, .int 0, .int 0]), .inr (1, [.null, .null, .null, .null, .null, .null, .int 0]), .inr (2, [.ref (b + 3)]), zI 100 62 (fun _ => 0)]) rfl (by decide) rfl]
  rw [putP (j := 1) (fs := [.null, .null, .null, .null, .null, .null, .int 0]) (es' := [.inr (3, [.null, .null, .int 0, .int 0, .int 0]), .inr (1, [.ref (b + 2), .null, .null, .null, .null, .null, .int 0]), .inr (2, [.ref (b + 3)]), zI 100 62 (fun _ => 0)]) rfl (Nat.le_of_ble_eq_true rfl) rfl]
  rw [newN (k := 4) (n := 6) (es' := [.inr (3, [.null, .null, .int 0, .int 0, .int 0]), .inr (1, [.ref (b + 2), .null, .null, .null, .null, .null, .int 0]), .inr (2, [.ref (b + 3)]), zI 100 62 (fun _ => 0), .inr (2, [.ref (b + 5)]), zI 100 6 (fun _ => 0)]) rfl (by decide) rfl]
  rw [putP (j := 1) (fs := [.ref (b + 2), .null, .null, .null, .null, .null, .int 0]) (es' := [.inr (3, [.null, .null, .int 0, .int 0, .int 0]), .inr (1, [.ref (b + 2), .ref (b + 4), .null, .null, .null, .null, .int 0]), .inr (2, [.ref (b + 3)]), zI 100 62 (fun _ => 0), .inr (2, [.ref (b + 5)]), zI 100 6 (fun _ => 0)]) rfl (Nat.le_of_ble_eq_true rfl) rfl]
  rw [newN (k := 6) (n := 6) (es' := [.inr (3, [.null, .null, .int 0, .int 0, .int 0]), .inr (1, [.ref (b + 2), .ref (b + 4), .null, .null, .null, .null, .int 0]), .inr (2, [.ref (b + 3)]), zI 100 62 (fun _ => 0), .inr (2, [.ref (b + 5)]), zI 100 6 (fun _ => 0), .inr (2, [.ref (b + 7)]), zI 100 6 (fun _ => 0)]) rfl (by decide) rfl]
  rw [putP (j := 1) (fs := [.ref (b + 2), .ref (b + 4), .null, .null, .null, .null, .int 0]) (es' := [.inr (3, [.null, .null, .int 0, .int 0, .int 0]), .inr (1, [.ref (b + 2), .ref (b + 4), .ref (b + 6), .null, .null, .null, .int 0]), .inr (2, [.ref (b + 3)]), zI 100 62 (fun _ => 0), .inr (2, [.ref (b + 5)]), zI 100 6 (fun _ => 0), .inr (2, [.ref (b + 7)]), zI 100 6 (fun _ => 0)]) rfl (Nat.le_of_ble_eq_true rfl) rfl]
  rw [newN (k := 8) (n := 6) (es' := [.inr (3, [.null, .null, .int 0, .int 0, .int 0]), .inr (1, [.ref (b + 2), .ref (b + 4), .ref (b + 6), .null, .null, .null, .int 0]), .inr (2, [.ref (b + 3)]), zI 100 62 (fun _ => 0), .inr (2, [.ref (b + 5)]), zI 100 6 (fun _ => 0), .inr (2, [.ref (b + 7)]), zI 100 6 (fun _ => 0), .inr (2, [.ref (b + 9)]), zI 100 6 (fun _ => 0)]) rfl (by decide) rfl]
  rw [putP (j := 1) (fs := [.ref (b + 2), .ref (b + 4), .ref (b + 6), .null, .null, .null, .int 0]) (es' := [.inr (3, [.null, .null, .int 0, .int 0, .int 0]), .inr (1, [.ref (b + 2), .ref (b + 4), .ref (b + 6), .ref (b + 8), .null, .null, .int 0]), .inr (2, [.ref (b + 3)]), zI 100 62 (fun _ => 0), .inr (2, [.ref (b + 5)]), zI 100 6 (fun _ => 0), .inr (2, [.ref (b + 7)]), zI 100 6 (fun _ => 0), .inr (2, [.ref (b + 9)]), zI 100 6 (fun _ => 0)]) rfl (Nat.le_of_ble_eq_true rfl) rfl]
  rw [newN (k := 10) (n := 6) (es' := [.inr (3, [.null, .null, .int 0, .int 0, .int 0]), .inr (1, [.ref (b + 2), .ref (b + 4), .ref (b + 6), .ref (b + 8), .null, .null, .int 0]), .inr (2, [.ref (b + 3)]), zI 100 62 (fun _ => 0), .inr (2, [.ref (b + 5)]), zI 100 6 (fun _ => 0), .inr (2, [.ref (b + 7)]), zI 100 6 (fun _ => 0), .inr (2, [.ref (b + 9)]), zI 100 6 (fun _ => 0), .inr (2, [.ref (b + 11)]), zI 100 6 (fun _ => 0)]) rfl (by decide) rfl]
  rw [putP (j := 1) (fs := [.ref (b + 2), .ref (b + 4), .ref (b + 6), .ref (b + 8), .null, .null, .int 0]) (es' := [.inr (3, [.null, .null, .int 0, .int 0, .int 0]), .inr (1, [.ref (b + 2), .ref (b + 4), .ref (b + 6), .ref (b + 8), .ref (b + 10), .null, .int 0]), .inr (2, [.ref (b + 3)]), zI 100 62 (fun _ => 0), .inr (2, [.ref (b + 5)]), zI 100 6 (fun _ => 0), .inr (2, [.ref (b + 7)]), zI 100 6 (fun _ => 0), .inr (2, [.ref (b + 9)]), zI 100 6 (fun _ => 0), .inr (2, [.ref (b + 11)]), zI 100 6 (fun _ => 0)]) rfl (Nat.le_of_ble_eq_true rfl) rfl]
  rw [newN (k := 12) (n := 31) (es' := [.inr (3, [.null, .null, .int 0, .int 0, .int 0]), .inr (1, [.ref (b + 2), .ref (b + 4), .ref (b + 6), .ref (b + 8), .ref (b + 10), .null, .int 0]), .inr (2, [.ref (b + 3)]), zI 100 62 (fun _ => 0), .inr (2, [.ref (b + 5)]), zI 100 6 (fun _ => 0), .inr (2, [.ref (b + 7)]), zI 100 6 (fun _ => 0), .inr (2, [.ref (b + 9)]), zI 100 6 (fun _ => 0), .inr (2, [.ref (b + 11)]), zI 100 6 (fun _ => 0), .inr (2, [.ref (b + 13)]), zI 100 31 (fun _ => 0)]) rfl (by decide) rfl]
  rw [putP (j := 1) (fs := [.ref (b + 2), .ref (b + 4), .ref (b + 6), .ref (b + 8), .ref (b + 10), .null, .int 0]) (es' := [.inr (3, [.null, .null, .int 0, .int 0, .int 0]), .inr (1, [.ref (b + 2), .ref (b + 4), .ref (b + 6), .ref (b + 8), .ref (b + 10), .ref (b + 12), .int 0]), .inr (2, [.ref (b + 3)]), zI 100 62 (fun _ => 0), .inr (2, [.ref (b + 5)]), zI 100 6 (fun _ => 0), .inr (2, [.ref (b + 7)]), zI 100 6 (fun _ => 0), .inr (2, [.ref (b + 9)]), zI 100 6 (fun _ => 0), .inr (2, [.ref (b + 11)]), zI 100 6 (fun _ => 0), .inr (2, [.ref (b + 13)]), zI 100 31 (fun _ => 0)]) rfl (Nat.le_of_ble_eq_true rfl) rfl]
def eI (b : Nat) (f1 f2 f3 : Nat → Int32) : List zE := [.inr (3, [.null, .null, .int 0, .int 0, .int 0]), .inr (1, [.ref (b + 2), .ref (b + 4), .ref (b + 6), .ref (b + 8), .ref (b + 10), .ref (b + 12), .int 0]), .inr (2, [.ref (b + 3)]), zI 100 62 (fun _ => 0), .inr (2, [.ref (b + 5)]), zI 100 6 f1, .inr (2, [.ref (b + 7)]), zI 100 6 f2, .inr (2, [.ref (b + 9)]), zI 100 6 f3, .inr (2, [.ref (b + 11)]), zI 100 6 (fun _ => 0), .inr (2, [.ref (b + 13)]), zI 100 31 (fun _ => 0)]
theorem I_step {b s : Nat} {g : Nat → Option zE} {K : gH → gR} {f1 f2 f3 : Nat → Int32} {i n : Nat} (hi : i < 6) : f_I_init_L84 K (n + 1) (pPut b (eI b f1 f2 f3) s g) (b + 1) (nI i) = f_I_init_L84 K n (pPut b (eI b (upd f1 i (if 2 ≤ i then -1 else nI 0)) (upd f2 i (-1)) (upd f3 i (nI i))) s g) (b + 1) (nI (i + 1)) := by
  have r1 : ∀ (f1 f2 f3 : Nat → Int32) (i j : Nat) (h : (eI b f1 f2 f3)[1]? = some (.inr (1, [.ref (b + 2), .ref (b + 4), .ref (b + 6), .ref (b + 8), .ref (b + 10), .ref (b + 12), .int 0]))), True := fun _ _ _ _ _ _ => trivial
  have h0 : ∀ (f1 f2 f3 : Nat → Int32), (eI b f1 f2 f3)[1]? = some (.inr (1, [.ref (b + 2), .ref (b + 4), .ref (b + 6), .ref (b + 8), .ref (b + 10), .ref (b + 12), .int 0])) := fun _ _ _ => rfl
  have fa1 : ∀ (f1 f2 f3 : Nat → Int32) (k : Nat → gR), gFA (pPut b (eI b f1 f2 f3) s g) (b + 1) 1 1 k = k (b + 4) := fun _ _ _ k => gFA_of (pP_at (h0 _ _ _)) rfl rfl
  have fa2 : ∀ (f1 f2 f3 : Nat → Int32) (k : Nat → gR), gFA (pPut b (eI b f1 f2 f3) s g) (b + 1) 1 2 k = k (b + 6) := fun _ _ _ k => gFA_of (pP_at (h0 _ _ _)) rfl rfl
  have fa3 : ∀ (f1 f2 f3 : Nat → Int32) (k : Nat → gR), gFA (pPut b (eI b f1 f2 f3) s g) (b + 1) 1 3 k = k (b + 8) := fun _ _ _ k => gFA_of (pP_at (h0 _ _ _)) rfl rfl
  have o4 : ∀ (f1 f2 f3 : Nat → Int32) (k : List Value → gR), gOb (pPut b (eI b f1 f2 f3) s g) (b + 4) 2 k = k [.ref (b + 5)] := fun _ _ _ k => gOb_of (pP_at (j := 4) rfl) rfl
  have o6 : ∀ (f1 f2 f3 : Nat → Int32) (k : List Value → gR), gOb (pPut b (eI b f1 f2 f3) s g) (b + 6) 2 k = k [.ref (b + 7)] := fun _ _ _ k => gOb_of (pP_at (j := 6) rfl) rfl
  have o8 : ∀ (f1 f2 f3 : Nat → Int32) (k : List Value → gR), gOb (pPut b (eI b f1 f2 f3) s g) (b + 8) 2 k = k [.ref (b + 9)] := fun _ _ _ k => gOb_of (pP_at (j := 8) rfl) rfl
  have w4 : ∀ (f1 f2 f3 : Nat → Int32) (v : Int32), f_N_write (pPut b (eI b f1 f2 f3) s g) (b + 4) (nI i) v = rV (pPut b (eI b (upd f1 i v) f2 f3) s g) := fun _ _ _ v => writeP (j := 4) (n := 6) rfl rfl hi (by decide) rfl
  have w6 : ∀ (f1 f2 f3 : Nat → Int32) (v : Int32), f_N_write (pPut b (eI b f1 f2 f3) s g) (b + 6) (nI i) v = rV (pPut b (eI b f1 (upd f2 i v) f3) s g) := fun _ _ _ v => writeP (j := 6) (n := 6) rfl rfl hi (by decide) rfl
  have w8 : ∀ (f1 f2 f3 : Nat → Int32) (v : Int32), f_N_write (pPut b (eI b f1 f2 f3) s g) (b + 8) (nI i) v = rV (pPut b (eI b f1 f2 (upd f3 i v)) s g) := fun _ _ _ v => writeP (j := 8) (n := 6) rfl rfl hi (by decide) rfl
  have e6 : ¬ nI 6 ≤ nI i := nI_ge hi (by decide)
  show (if (nI 6) ≤ (nI i) then _ else _) = _
  rw [if_neg e6, fa1]
  by_cases h2 : 2 ≤ i
  · rw [if_pos (nI_le h2 (by omega)), if_pos h2, o4, w4, bV_rV, fa2, o6, w6, bV_rV, fa3, o8, w8, bV_rV, nI_add]
  · rw [if_neg (nI_ge (by omega) (by decide)), if_neg h2, o4, w4, bV_rV, fa2, o6, w6, bV_rV, fa3, o8, w8, bV_rV, nI_add]
theorem I_end {b s : Nat} {g : Nat → Option zE} {K : gH → gR} {f1 f2 f3 : Nat → Int32} {n : Nat} : f_I_init_L84 K (n + 1) (pPut b (eI b f1 f2 f3) s g) (b + 1) (nI 6) = K (pPut b (eI b f1 f2 f3) s g) := by
  show (if (nI 6) ≤ (nI 6) then _ else _) = _
  rw [if_pos (by decide)]
def f1I : Nat → Int32 := upd (upd (upd (upd (upd (upd (fun _ => 0) 0 (nI 0)) 1 (nI 0)) 2 (-1)) 3 (-1)) 4 (-1)) 5 (-1)
def f2I : Nat → Int32 := upd (upd (upd (upd (upd (upd (fun _ => 0) 0 (-1)) 1 (-1)) 2 (-1)) 3 (-1)) 4 (-1)) 5 (-1)
def f3I : Nat → Int32 := upd (upd (upd (upd (upd (upd (fun _ => 0) 0 (nI 0)) 1 (nI 1)) 2 (nI 2)) 3 (nI 3)) 4 (nI 4)) 5 (nI 5)
theorem I_all {b s : Nat} {g : Nat → Option zE} : f_I_init (pPut b [.inr (3, [.null, .null, .int 0, .int 0, .int 0]), .inr (1, [.null, .null, .null, .null, .null, .null, .int 0])] s g) (b + 1) = rV (pPut b (eI b f1I f2I f3I) (s + 123) g) := by
  rw [I_init]
  show f_I_init_L84 _ (5993 + 1 + 1 + 1 + 1 + 1 + 1 + 1) (pPut b (eI b (fun _ => 0) (fun _ => 0) (fun _ => 0)) (s + 123) g) (b + 1) (nI 0) = _
  rw [I_step (i := 0) (by decide), I_step (i := 1) (by decide), I_step (i := 2) (by decide), I_step (i := 3) (by decide), I_step (i := 4) (by decide), I_step (i := 5) (by decide), I_end]
  rfl
theorem U_all {b s : Nat} {g : Nat → Option zE} : f_U_init (pPut b [.inr (3, [.ref (b + 1), .null, .int 0, .int 0, .int 0]), .inr (1, [.ref (b + 2), .ref (b + 4), .ref (b + 6), .ref (b + 8), .ref (b + 10), .ref (b + 12), .int 0]), .inr (2, [.ref (b + 3)]), zI 100 62 (fun _ => 0), .inr (2, [.ref (b + 5)]), zI 100 6 f1I, .inr (2, [.ref (b + 7)]), zI 100 6 f2I, .inr (2, [.ref (b + 9)]), zI 100 6 f3I, .inr (2, [.ref (b + 11)]), zI 100 6 (fun _ => 0), .inr (2, [.ref (b + 13)]), zI 100 31 (fun _ => 0), .inr (0, [.null, .null, .null, .null, .int 0])] s g) (b + 14) = rV (pPut b [.inr (3, [.ref (b + 1), .null, .int 0, .int 0, .int 0]), .inr (1, [.ref (b + 2), .ref (b + 4), .ref (b + 6), .ref (b + 8), .ref (b + 10), .ref (b + 12), .int 0]), .inr (2, [.ref (b + 3)]), zI 100 62 (fun _ => 0), .inr (2, [.ref (b + 5)]), zI 100 6 f1I, .inr (2, [.ref (b + 7)]), zI 100 6 f2I, .inr (2, [.ref (b + 9)]), zI 100 6 f3I, .inr (2, [.ref (b + 11)]), zI 100 6 (fun _ => 0), .inr (2, [.ref (b + 13)]), zI 100 31 (fun _ => 0), .inr (0, [.ref (b + 15), .ref (b + 17), .ref (b + 19), .ref (b + 21), .int 0]), .inr (2, [.ref (b + 16)]), zI 100 3 (fun _ => 0), .inr (2, [.ref (b + 18)]), zI 100 3 (fun _ => 0), .inr (2, [.ref (b + 20)]), zI 100 3 (fun _ => 0), .inr (2, [.ref (b + 22)]), zI 100 3 (fun _ => 0)] (s + 16) g) := by
  unfold f_U_init
  rw [newN (k := 15) (n := 3) (es' := [.inr (3, [.ref (b + 1), .null, .int 0, .int 0, .int 0]), .inr (1, [.ref (b + 2), .ref (b + 4), .ref (b + 6), .ref (b + 8), .ref (b + 10), .ref (b + 12), .int 0]), .inr (2, [.ref (b + 3)]), zI 100 62 (fun _ => 0), .inr (2, [.ref (b + 5)]), zI 100 6 f1I, .inr (2, [.ref (b + 7)]), zI 100 6 f2I, .inr (2, [.ref (b + 9)]), zI 100 6 f3I, .inr (2, [.ref (b + 11)]), zI 100 6 (fun _ => 0), .inr (2, [.ref (b + 13)]), zI 100 31 (fun _ => 0), .inr (0, [.null, .null, .null, .null, .int 0]), .inr (2, [.ref (b + 16)]), zI 100 3 (fun _ => 0)]) rfl (by decide) rfl]
  rw [putP (j := 14) (fs := [.null, .null, .null, .null, .int 0]) (es' := [.inr (3, [.ref (b + 1), .null, .int 0, .int 0, .int 0]), .inr (1, [.ref (b + 2), .ref (b + 4), .ref (b + 6), .ref (b + 8), .ref (b + 10), .ref (b + 12), .int 0]), .inr (2, [.ref (b + 3)]), zI 100 62 (fun _ => 0), .inr (2, [.ref (b + 5)]), zI 100 6 f1I, .inr (2, [.ref (b + 7)]), zI 100 6 f2I, .inr (2, [.ref (b + 9)]), zI 100 6 f3I, .inr (2, [.ref (b + 11)]), zI 100 6 (fun _ => 0), .inr (2, [.ref (b + 13)]), zI 100 31 (fun _ => 0), .inr (0, [.ref (b + 15), .null, .null, .null, .int 0]), .inr (2, [.ref (b + 16)]), zI 100 3 (fun _ => 0)]) rfl (Nat.le_of_ble_eq_true rfl) rfl]
  rw [newN (k := 17) (n := 3) (es' := [.inr (3, [.ref (b + 1), .null, .int 0, .int 0, .int 0]), .inr (1, [.ref (b + 2), .ref (b + 4), .ref (b + 6), .ref (b + 8), .ref (b + 10), .ref (b + 12), .int 0]), .inr (2, [.ref (b + 3)]), zI 100 62 (fun _ => 0), .inr (2, [.ref (b + 5)]), zI 100 6 f1I, .inr (2, [.ref (b + 7)]), zI 100 6 f2I, .inr (2, [.ref (b + 9)]), zI 100 6 f3I, .inr (2, [.ref (b + 11)]), zI 100 6 (fun _ => 0), .inr (2, [.ref (b + 13)]), zI 100 31 (fun _ => 0), .inr (0, [.ref (b + 15), .null, .null, .null, .int 0]), .inr (2, [.ref (b + 16)]), zI 100 3 (fun _ => 0), .inr (2, [.ref (b + 18)]), zI 100 3 (fun _ => 0)]) rfl (by decide) rfl]
  rw [putP (j := 14) (fs := [.ref (b + 15), .null, .null, .null, .int 0]) (es' := [.inr (3, [.ref (b + 1), .null, .int 0, .int 0, .int 0]), .inr (1, [.ref (b + 2), .ref (b + 4), .ref (b + 6), .ref (b + 8), .ref (b + 10), .ref (b + 12), .int 0]), .inr (2, [.ref (b + 3)]), zI 100 62 (fun _ => 0), .inr (2, [.ref (b + 5)]), zI 100 6 f1I, .inr (2, [.ref (b + 7)]), zI 100 6 f2I, .inr (2, [.ref (b + 9)]), zI 100 6 f3I, .inr (2, [.ref (b + 11)]), zI 100 6 (fun _ => 0), .inr (2, [.ref (b + 13)]), zI 100 31 (fun _ => 0), .inr (0, [.ref (b + 15), .ref (b + 17), .null, .null, .int 0]), .inr (2, [.ref (b + 16)]), zI 100 3 (fun _ => 0), .inr (2, [.ref (b + 18)]), zI 100 3 (fun _ => 0)]) rfl (Nat.le_of_ble_eq_true rfl) rfl]
  rw [newN (k := 19) (n := 3) (es' := [.inr (3, [.ref (b + 1), .null, .int 0, .int 0, .int 0]), .inr (1, [.ref (b + 2), .ref (b + 4), .ref (b + 6), .ref (b + 8), .ref (b + 10), .ref (b + 12), .int 0]), .inr (2, [.ref (b + 3)]), zI 100 62 (fun _ => 0), .inr (2, [.ref (b + 5)]), zI 100 6 f1I, .inr (2, [.ref (b + 7)]), zI 100 6 f2I, .inr (2, [.ref (b + 9)]), zI 100 6 f3I, .inr (2, [.ref (b + 11)]), zI 100 6 (fun _ => 0), .inr (2, [.ref (b + 13)]), zI 100 31 (fun _ => 0), .inr (0, [.ref (b + 15), .ref (b + 17), .null, .null, .int 0]), .inr (2, [.ref (b + 16)]), zI 100 3 (fun _ => 0), .inr (2, [.ref (b + 18)]), zI 100 3 (fun _ => 0), .inr (2, [.ref (b + 20)]), zI 100 3 (fun _ => 0)]) rfl (by decide) rfl]
  rw [putP (j := 14) (fs := [.ref (b + 15), .ref (b + 17), .null, .null, .int 0]) (es' := [.inr (3, [.ref (b + 1), .null, .int 0, .int 0, .int 0]), .inr (1, [.ref (b + 2), .ref (b + 4), .ref (b + 6), .ref (b + 8), .ref (b + 10), .ref (b + 12), .int 0]), .inr (2, [.ref (b + 3)]), zI 100 62 (fun _ => 0), .inr (2, [.ref (b + 5)]), zI 100 6 f1I, .inr (2, [.ref (b + 7)]), zI 100 6 f2I, .inr (2, [.ref (b + 9)]), zI 100 6 f3I, .inr (2, [.ref (b + 11)]), zI 100 6 (fun _ => 0), .inr (2, [.ref (b + 13)]), zI 100 31 (fun _ => 0), .inr (0, [.ref (b + 15), .ref (b + 17), .ref (b + 19), .null, .int 0]), .inr (2, [.ref (b + 16)]), zI 100 3 (fun _ => 0), .inr (2, [.ref (b + 18)]), zI 100 3 (fun _ => 0), .inr (2, [.ref (b + 20)]), zI 100 3 (fun _ => 0)]) rfl (Nat.le_of_ble_eq_true rfl) rfl]
  rw [newN (k := 21) (n := 3) (es' := [.inr (3, [.ref (b + 1), .null, .int 0, .int 0, .int 0]), .inr (1, [.ref (b + 2), .ref (b + 4), .ref (b + 6), .ref (b + 8), .ref (b + 10), .ref (b + 12), .int 0]), .inr (2, [.ref (b + 3)]), zI 100 62 (fun _ => 0), .inr (2, [.ref (b + 5)]), zI 100 6 f1I, .inr (2, [.ref (b + 7)]), zI 100 6 f2I, .inr (2, [.ref (b + 9)]), zI 100 6 f3I, .inr (2, [.ref (b + 11)]), zI 100 6 (fun _ => 0), .inr (2, [.ref (b + 13)]), zI 100 31 (fun _ => 0), .inr (0, [.ref (b + 15), .ref (b + 17), .ref (b + 19), .null, .int 0]), .inr (2, [.ref (b + 16)]), zI 100 3 (fun _ => 0), .inr (2, [.ref (b + 18)]), zI 100 3 (fun _ => 0), .inr (2, [.ref (b + 20)]), zI 100 3 (fun _ => 0), .inr (2, [.ref (b + 22)]), zI 100 3 (fun _ => 0)]) rfl (by decide) rfl]
  rw [putP (j := 14) (fs := [.ref (b + 15), .ref (b + 17), .ref (b + 19), .null, .int 0]) (es' := [.inr (3, [.ref (b + 1), .null, .int 0, .int 0, .int 0]), .inr (1, [.ref (b + 2), .ref (b + 4), .ref (b + 6), .ref (b + 8), .ref (b + 10), .ref (b + 12), .int 0]), .inr (2, [.ref (b + 3)]), zI 100 62 (fun _ => 0), .inr (2, [.ref (b + 5)]), zI 100 6 f1I, .inr (2, [.ref (b + 7)]), zI 100 6 f2I, .inr (2, [.ref (b + 9)]), zI 100 6 f3I, .inr (2, [.ref (b + 11)]), zI 100 6 (fun _ => 0), .inr (2, [.ref (b + 13)]), zI 100 31 (fun _ => 0), .inr (0, [.ref (b + 15), .ref (b + 17), .ref (b + 19), .ref (b + 21), .int 0]), .inr (2, [.ref (b + 16)]), zI 100 3 (fun _ => 0), .inr (2, [.ref (b + 18)]), zI 100 3 (fun _ => 0), .inr (2, [.ref (b + 20)]), zI 100 3 (fun _ => 0), .inr (2, [.ref (b + 22)]), zI 100 3 (fun _ => 0)]) rfl (Nat.le_of_ble_eq_true rfl) rfl]
def eXc (b : Nat) : List zE := [.inr (3, [.ref (b + 1), .ref (b + 14), .int 0, .int 0, .int 0]), .inr (1, [.ref (b + 2), .ref (b + 4), .ref (b + 6), .ref (b + 8), .ref (b + 10), .ref (b + 12), .int 0]), .inr (2, [.ref (b + 3)]), zI 100 62 (fun _ => 0), .inr (2, [.ref (b + 5)]), zI 100 6 f1I, .inr (2, [.ref (b + 7)]), zI 100 6 f2I, .inr (2, [.ref (b + 9)]), zI 100 6 f3I, .inr (2, [.ref (b + 11)]), zI 100 6 (fun _ => 0), .inr (2, [.ref (b + 13)]), zI 100 31 (fun _ => 0), .inr (0, [.ref (b + 15), .ref (b + 17), .ref (b + 19), .ref (b + 21), .int 0]), .inr (2, [.ref (b + 16)]), zI 100 3 (fun _ => 0), .inr (2, [.ref (b + 18)]), zI 100 3 (fun _ => 0), .inr (2, [.ref (b + 20)]), zI 100 3 (fun _ => 0), .inr (2, [.ref (b + 22)]), zI 100 3 (fun _ => 0)]
theorem X_all {b s : Nat} {g : Nat → Option zE} : f_X_init (pPut b [.inr (3, [.null, .null, .int 0, .int 0, .int 0])] s g) b = rV (pPut b (eXc b) (s + 7 + 123 + 5 + 16) g) := by
  unfold f_X_init
  have hb : ∀ (es : List zE) (s i : Nat) (v : Value) (k : gH → gR), gPut (pPut b es s g) b 3 i v k = gPut (pPut b es s g) (b + 0) 3 i v k := fun _ _ _ _ _ => rfl
  rw [newP (k := 1) (es' := [.inr (3, [.null, .null, .int 0, .int 0, .int 0]), .inr (1, [.null, .null, .null, .null, .null, .null, .int 0])]) rfl rfl, I_all, bV_rV, hb]
  rw [putP (j := 0) (fs := [.null, .null, .int 0, .int 0, .int 0]) (es' := [.inr (3, [.ref (b + 1), .null, .int 0, .int 0, .int 0]), .inr (1, [.ref (b + 2), .ref (b + 4), .ref (b + 6), .ref (b + 8), .ref (b + 10), .ref (b + 12), .int 0]), .inr (2, [.ref (b + 3)]), zI 100 62 (fun _ => 0), .inr (2, [.ref (b + 5)]), zI 100 6 f1I, .inr (2, [.ref (b + 7)]), zI 100 6 f2I, .inr (2, [.ref (b + 9)]), zI 100 6 f3I, .inr (2, [.ref (b + 11)]), zI 100 6 (fun _ => 0), .inr (2, [.ref (b + 13)]), zI 100 31 (fun _ => 0)]) rfl (by decide) rfl]
  rw [newP (k := 14) (es' := [.inr (3, [.ref (b + 1), .null, .int 0, .int 0, .int 0]), .inr (1, [.ref (b + 2), .ref (b + 4), .ref (b + 6), .ref (b + 8), .ref (b + 10), .ref (b + 12), .int 0]), .inr (2, [.ref (b + 3)]), zI 100 62 (fun _ => 0), .inr (2, [.ref (b + 5)]), zI 100 6 f1I, .inr (2, [.ref (b + 7)]), zI 100 6 f2I, .inr (2, [.ref (b + 9)]), zI 100 6 f3I, .inr (2, [.ref (b + 11)]), zI 100 6 (fun _ => 0), .inr (2, [.ref (b + 13)]), zI 100 31 (fun _ => 0), .inr (0, [.null, .null, .null, .null, .int 0])]) rfl rfl, U_all, bV_rV, hb]
  rw [putP (j := 0) (fs := [.ref (b + 1), .null, .int 0, .int 0, .int 0]) (es' := eXc b) rfl (Nat.le_of_ble_eq_true rfl) rfl]
def sX : cS := (fun k => if k = 1 then f1I else if k = 2 then f2I else if k = 3 then f3I else fun _ => 0, fun _ => 0)
def A0 : mS := (fun _ => [], fun _ => none, fun _ => none, fun _ => 0)
theorem mInv_0 : mInv 0 A0 := by
  refine ⟨⟨fun q x h => (by cases h), fun _ => 0, fun _ => Nat.zero_lt_succ 5, fun q x h => (by cases h)⟩, fun q x h => (by cases h), fun r _ => ⟨Nat.zero_le _, fun t h => absurd h List.not_mem_nil⟩, fun c x h => (by cases h), rfl, (by decide)⟩
theorem CRep_0 : CRep sX A0 := by
  refine ⟨fun r i t _ h => ?_, fun r hr => ?_, fun p h2 h6 => ?_, ⟨fun r hr => ?_, fun p x h => (by cases h)⟩, fun p r s h6 h => ?_, fun c hc => ?_, rfl, rfl, rfl, rfl, rfl⟩
  · exact absurd h (by simp [A0])
  · match r, hr with
    | 0, _ => rfl
    | 1, _ => rfl
  · match p, h2, h6 with
    | 2, _, _ => rfl
    | 3, _, _ => rfl
    | 4, _, _ => rfl
    | 5, _, _ => rfl
  · match r, hr with
    | 0, _ => rfl
    | 1, _ => rfl
  · by_cases hp : p < 2
    · rw [show mRw A0.2.1 zDp p = some (p, 0) from by show (if p < 2 then some (p, 0) else _) = _; rw [if_pos hp]] at h
      cases h
      match p, hp with
      | 0, _ => exact ⟨rfl, rfl⟩
      | 1, _ => exact ⟨rfl, rfl⟩
    · rw [show mRw A0.2.1 zDp p = none from by show (if p < 2 then some (p, 0) else _) = _; rw [if_neg hp]; rfl] at h
      cases h
  · exact (rfl : (0 : Int32) = nI 0)
theorem x_init (G : zH) : ∃ H1 : gH, f_X_init (0, zNew G (.inr (3, [.null, .null, .int 0, .int 0, .int 0]))) G.1 = rV H1 ∧ H1.2.1 = G.1 + 23 ∧ H1.1 = 151 ∧ lCl G.1 sX H1.2 ∧ ∀ q, ¬ (G.1 ≤ q ∧ q < G.1 + 23) → H1.2.2 q = G.2 q := by
  have e : ((0, zNew G (.inr (3, [.null, .null, .int 0, .int 0, .int 0]))) : gH) = pPut G.1 [.inr (3, [.null, .null, .int 0, .int 0, .int 0])] 0 G.2 := by
    unfold zNew pPut
    congr 2
    funext q
    by_cases hq : q = G.1
    · subst hq
      rw [if_pos rfl, if_pos ⟨by omega, by simp⟩, Nat.sub_self]; rfl
    · rw [if_neg hq, if_neg (by simp only [List.length_singleton]; omega)]
  refine ⟨pPut G.1 (eXc G.1) (0 + 7 + 123 + 5 + 16) G.2, by rw [e, X_all], rfl, rfl, fun j hj => ?_, fun q hq => ?_⟩
  · show (if G.1 ≤ G.1 + j ∧ G.1 + j < G.1 + (eXc G.1).length then (eXc G.1)[G.1 + j - G.1]? else _) = _
    rw [if_pos ⟨by omega, by show G.1 + j < G.1 + 23; omega⟩, Nat.add_sub_cancel_left]
    match j, hj with
    | 0, _ => rfl
    | 1, _ => rfl
    | 2, _ => rfl
    | 3, _ => rfl
    | 4, _ => rfl
    | 5, _ => rfl
    | 6, _ => rfl
    | 7, _ => rfl
    | 8, _ => rfl
    | 9, _ => rfl
    | 10, _ => rfl
    | 11, _ => rfl
    | 12, _ => rfl
    | 13, _ => rfl
    | 14, _ => rfl
    | 15, _ => rfl
    | 16, _ => rfl
    | 17, _ => rfl
    | 18, _ => rfl
    | 19, _ => rfl
    | 20, _ => rfl
    | 21, _ => rfl
    | 22, _ => rfl
    | n + 23, h => omega
  · show (if G.1 ≤ q ∧ q < G.1 + (eXc G.1).length then _ else _) = _
    exact if_neg hq
end
section
/-! The reference's constructor. -/
section MI
variable {w : Nat → Nat}
theorem isAL.size_lt {G : gH} {a e : Nat} {xs : List Nat} (h : isAL w G a e xs) (hw : gWf G) : a < G.2.1 ∧ e < G.2.1 := by
  obtain ⟨m, κ, cap, f, h1, h2, -⟩ := h
  exact ⟨hw _ _ h1, hw _ _ h2⟩
theorem MI_step {G : gH} {o q1 e i n : Nat} {fs : List Value} {xs : List Nat} {f0 : Nat → Option Nat} {K : gH → gR} (hw : gWf G) (ho : G.2.2 o = some (.inr (6, fs))) (hfs : fs[1]? = some (.ref q1)) (h0 : G.2.2 (w 0) = some (zQ 1103 0 f0)) (hA : isAL w G q1 e xs) (hl : xs.length ≤ 40) (hae : q1 ≠ e) (hi : i < 2) :
    ∃ (e' : Nat) (G' : gH), f_M_init_L34 w K (n + 1) G o (nI i) = f_M_init_L34 w K n G' o (nI (i + 1)) ∧ gWf G' ∧ isAL w G' q1 e' (xs ++ [G.2.1]) ∧ q1 ≠ e' ∧ isAL w G' G.2.1 (w 0) [] ∧ (e' ≠ w 0 ∧ (e' = e ∨ e' = G.2.1 + 1)) ∧ (∀ q, q < G.2.1 → q ≠ q1 → q ≠ e ∨ e = w 0 → G'.2.2 q = G.2.2 q) ∧ gKeep G G' ∧ G'.2.1 ≤ G.2.1 + 2 ∧ G.2.1 < G'.2.1 ∧ G'.1 ≤ G.1 + 64 := by
  obtain ⟨hq1, he1⟩ := hA.size_lt hw
  have hw0 : w 0 < G.2.1 := hw _ _ h0
  have hos : o < G.2.1 := hw _ _ ho
  have hoq : o ≠ q1 := by
    rintro rfl
    obtain ⟨m, κ, cap, f, h1, -⟩ := hA
    rw [ho] at h1; cases h1
  have q1w : q1 ≠ w 0 := by
    rintro rfl
    obtain ⟨m, κ, cap, f, h1, -⟩ := hA
    rw [h0] at h1; cases h1
  have hwN : gWf (gNew G 3 (.inr (9, [.null, .int 0, .int 0]))) := hw.new
  have hNs : (gNew G 3 (.inr (9, [.null, .int 0, .int 0]))).2.1 = G.2.1 + 1 := rfl
  obtain ⟨G1, a1, a2, a3, a4⟩ := al_init (w := w) (G := gNew G 3 (.inr (9, [.null, .int 0, .int 0]))) (a := G.2.1) hwN gNew_at rfl (by rw [gNew_ne (by omega)]; exact h0) (by omega)
  have hB1 : ∀ q, q < G.2.1 → G1.2.2 q = G.2.2 q := by
    intro q hq
    rw [a3.2.2.2.2.2 q (by omega) (by omega), gNew_ne (by omega)]
  have hw1 : gWf G1 := a3.2.2.2.2.1 hwN
  have hk1 : gKeep G G1 := gKeep.new hw hB1
  have hz1 : G1.2.1 = G.2.1 + 1 ∧ G1.1 = G.1 + 3 := by
    obtain ⟨b1, b2, b3, b4, -⟩ := a3
    have e2 : (gNew G 3 (.inr (9, [.null, .int 0, .int 0]))).1 = G.1 + 3 := rfl
    omega
  have hA1 : isAL w G1 q1 e xs := hA.cell (hB1 _ hq1) (hB1 _ he1) hk1
  have hEl : gEl G1 G.2.1 := by
    obtain ⟨m, κ, cap, f, h1, -⟩ := a2
    exact Or.inl ⟨_, h1⟩
  obtain ⟨e', G2, c1, c2, c3, c4, c5, c6⟩ := al_add hw1 hA1 hl hEl hae
  have hk2 : gKeep G1 G2 := c6
  have e'w : e' ≠ w 0 := by
    rintro rfl
    rcases c4 with ⟨rfl, cap, f, h⟩ | h
    · rw [hB1 _ hw0, h0] at h; cases h
    · omega
  have hfr : ∀ q, q < G.2.1 → q ≠ q1 → q ≠ e ∨ e = w 0 → G2.2.2 q = G.2.2 q := by
    intro q hq hqq hqe
    rw [c5.2.2.2.2.2 q (by omega) ?_, hB1 q hq]
    rintro (h | ⟨h1, h2⟩)
    · exact hqq h
    · rcases hqe with h | h
      · exact h h1
      · exact e'w (h2.trans h)
  have hr0 : isAL w G2 G.2.1 (w 0) [] := by
    refine a2.cell (c5.2.2.2.2.2 _ (by omega) ?_) (c5.2.2.2.2.2 _ (by omega) ?_) hk2
    · rintro (h | ⟨h1, h2⟩)
      · omega
      · omega
    · rintro (h | ⟨h1, h2⟩)
      · exact q1w h.symm
      · exact e'w (h2.trans h1.symm)
  have hs2 := c5.1
  have hs3 := c5.2.1
  have hs4 := c5.2.2.2.1
  refine ⟨e', G2, ?_, c5.2.2.2.2.1 hw1, c2, c3, hr0, ⟨e'w, c4.imp And.left (fun h => by omega)⟩, hfr, hk1.trans hk2, by omega, by omega, by omega⟩
  show (if (nI 2) ≤ (nI i) then _ else _) = _
  rw [if_neg (nI_ge hi (by decide)), gFA_of ho rfl hfs]
  unfold gNewO
  dsimp only
  rw [a1, bV_rV]
  obtain ⟨m9, κ9, cap9, f9, k1, -⟩ := hA1
  rw [gOb_of k1 rfl, c1, bI_rI, nI_add]
theorem m_init {G : zH} {f0 : Nat → Option Nat} (hw : gWf (0, G)) (h0 : G.2 (w 0) = some (zQ 1103 0 f0)) :
    ∃ (G' : gH) (D : mD), f_M_init w (0, zNew G (.inr (6, [.int 0, .null, .null, .null, .int 0, .int 0, .int 0, .int 0, .int 0]))) G.1 = rV G' ∧ MS w G.1 G' A0 D ∧ (∀ q, q < G.1 → G'.2.2 q = G.2 q) ∧ G.1 < G'.2.1 ∧ G'.2.1 ≤ G.1 + 20 ∧ G'.1 ≤ 300 := by
  have hw0 : w 0 < G.1 := hw _ _ h0
  generalize hN0 : ((0, zNew G (.inr (6, [.int 0, .null, .null, .null, .int 0, .int 0, .int 0, .int 0, .int 0]))) : gH) = N0
  have hN0w : gWf N0 := by rw [← hN0]; exact fun q e h => gWf.new (n := 0) hw q e h
  have n1 : N0.2.1 = G.1 + 1 := by rw [← hN0]; rfl
  have n1s : N0.1 = 0 := by rw [← hN0]
  have n2 : N0.2.2 G.1 = some (.inr (6, [.int 0, .null, .null, .null, .int 0, .int 0, .int 0, .int 0, .int 0])) := by rw [← hN0]; exact zNew_at _ _
  have n3 : ∀ q, q < G.1 → N0.2.2 q = G.2 q := fun q hq => by rw [← hN0]; exact zNew_ne _ _ (by omega)
  -- the list of rows
  obtain ⟨G1, a1, a2, a3, a4⟩ := al_init (w := w) (G := gNew N0 3 (.inr (9, [.null, .int 0, .int 0]))) (a := N0.2.1) hN0w.new gNew_at rfl (by rw [gNew_ne (by omega), n3 _ hw0]; exact h0) (by omega)
  have hz1 : G1.2.1 = G.1 + 2 ∧ G1.1 = 3 := by
    obtain ⟨b1, b2, b3, b4, -⟩ := a3
    have e1 : (gNew N0 3 (.inr (9, [.null, .int 0, .int 0]))).2.1 = N0.2.1 + 1 := rfl
    have e2 : (gNew N0 3 (.inr (9, [.null, .int 0, .int 0]))).1 = N0.1 + 3 := rfl
    omega
  have hB1 : ∀ q, q < G.1 + 1 → G1.2.2 q = N0.2.2 q := by
    intro q hq
    rw [a3.2.2.2.2.2 q (by show q < N0.2.1 + 1; omega) (by omega), gNew_ne (by omega)]
  have hw1 : gWf G1 := a3.2.2.2.2.1 hN0w.new
  have o1 : G1.2.2 G.1 = some (.inr (6, [.int 0, .null, .null, .null, .int 0, .int 0, .int 0, .int 0, .int 0])) := by rw [hB1 _ (by omega)]; exact n2
  -- the two arrays
  generalize hG2 : gUp G1 G.1 (.inr (6, [.int 0, .ref N0.2.1, .null, .null, .int 0, .int 0, .int 0, .int 0, .int 0])) = G2
  have s2 : G2.2.1 = G.1 + 2 ∧ G2.1 = 3 := by rw [← hG2]; exact hz1
  have o2 : G2.2.2 G.1 = some (.inr (6, [.int 0, .ref N0.2.1, .null, .null, .int 0, .int 0, .int 0, .int 0, .int 0])) := by rw [← hG2]; exact gUp_at
  have m2 : ∀ q, q ≠ G.1 → G2.2.2 q = G1.2.2 q := fun q hq => by rw [← hG2]; exact gUp_ne hq
  have w2 : gWf G2 := by rw [← hG2]; exact hw1.up (by omega)
  generalize hG3 : gNew G2 6 (zQ 104 6 (fun _ => none)) = G3
  have s3 : G3.2.1 = G.1 + 3 ∧ G3.1 = 9 := by rw [← hG3]; exact ⟨by show G2.2.1 + 1 = _; omega, by show G2.1 + 6 = _; omega⟩
  have w3 : gWf G3 := by rw [← hG3]; exact w2.new
  have m3 : ∀ q, q ≠ G.1 + 2 → G3.2.2 q = G2.2.2 q := fun q hq => by rw [← hG3]; exact gNew_ne (by omega)
  have p3 : G3.2.2 (G.1 + 2) = some (zQ 104 6 (fun _ => none)) := by rw [← hG3, ← s2.1]; exact gNew_at
  have o3 : G3.2.2 G.1 = some (.inr (6, [.int 0, .ref N0.2.1, .null, .null, .int 0, .int 0, .int 0, .int 0, .int 0])) := by rw [m3 _ (by omega)]; exact o2
  generalize hG4 : gUp G3 G.1 (.inr (6, [.int 0, .ref N0.2.1, .ref (G.1 + 2), .null, .int 0, .int 0, .int 0, .int 0, .int 0])) = G4
  have s4 : G4.2.1 = G.1 + 3 ∧ G4.1 = 9 := by rw [← hG4]; exact s3
  have o4 : G4.2.2 G.1 = some (.inr (6, [.int 0, .ref N0.2.1, .ref (G.1 + 2), .null, .int 0, .int 0, .int 0, .int 0, .int 0])) := by rw [← hG4]; exact gUp_at
  have m4 : ∀ q, q ≠ G.1 → G4.2.2 q = G3.2.2 q := fun q hq => by rw [← hG4]; exact gUp_ne hq
  have w4 : gWf G4 := by rw [← hG4]; exact w3.up (by omega)
  generalize hG5 : gNew G4 3 (zQ 105 3 (fun _ => none)) = G5
  have s5 : G5.2.1 = G.1 + 4 ∧ G5.1 = 12 := by rw [← hG5]; exact ⟨by show G4.2.1 + 1 = _; omega, by show G4.1 + 3 = _; omega⟩
  have w5 : gWf G5 := by rw [← hG5]; exact w4.new
  have m5 : ∀ q, q ≠ G.1 + 3 → G5.2.2 q = G4.2.2 q := fun q hq => by rw [← hG5]; exact gNew_ne (by omega)
  have p5 : G5.2.2 (G.1 + 3) = some (zQ 105 3 (fun _ => none)) := by rw [← hG5, ← s4.1]; exact gNew_at
  have o5 : G5.2.2 G.1 = some (.inr (6, [.int 0, .ref N0.2.1, .ref (G.1 + 2), .null, .int 0, .int 0, .int 0, .int 0, .int 0])) := by rw [m5 _ (by omega)]; exact o4
  generalize hG6 : gUp G5 G.1 (.inr (6, [.int 0, .ref N0.2.1, .ref (G.1 + 2), .ref (G.1 + 3), .int 0, .int 0, .int 0, .int 0, .int 0])) = G6
  have s6 : G6.2.1 = G.1 + 4 ∧ G6.1 = 12 := by rw [← hG6]; exact s5
  have o6 : G6.2.2 G.1 = some (.inr (6, [.int 0, .ref N0.2.1, .ref (G.1 + 2), .ref (G.1 + 3), .int 0, .int 0, .int 0, .int 0, .int 0])) := by rw [← hG6]; exact gUp_at
  have m6 : ∀ q, q ≠ G.1 → G6.2.2 q = G5.2.2 q := fun q hq => by rw [← hG6]; exact gUp_ne hq
  have w6 : gWf G6 := by rw [← hG6]; exact w5.up (by omega)
  have old6 : ∀ q, q < G.1 → G6.2.2 q = G.2 q := fun q hq => by rw [m6 q (by omega), m5 q (by omega), m4 q (by omega), m3 q (by omega), m2 q (by omega), hB1 q (by omega), n3 q hq]
  have k6 : ∀ q, q = G.1 + 1 → G6.2.2 q = G1.2.2 q := fun q hq => by rw [m6 q (by omega), m5 q (by omega), m4 q (by omega), m3 q (by omega), m2 q (by omega)]
  have w06 : G6.2.2 (w 0) = some (zQ 1103 0 f0) := (old6 _ hw0).trans h0
  have A6 : isAL w G6 N0.2.1 (w 0) [] := by
    obtain ⟨m, κ, cap, f, q1, q2, q3, q4, q5, q6, q7⟩ := a2
    have e0 : G1.2.2 (w 0) = some (zQ 1103 0 f0) := by rw [hB1 _ (by omega), n3 _ hw0]; exact h0
    rw [e0] at q2
    obtain ⟨rfl, rfl, rfl⟩ := zQ_inj q2
    exact ⟨m, 1103, 0, f0, (k6 _ n1).trans q1, w06, Or.inr ⟨rfl, rfl, rfl⟩, by simp, by omega, fun i hi => by simp at hi, fun i hi => by simp at hi⟩
  obtain ⟨e7, G7, r7, w7, A7, ne7, B7, ew7, fr7, kp7, z7, y7, x7⟩ := MI_step (w := w) (K := fun G23 => rV G23) (n := 5999) (i := 0) w6 o6 rfl w06 A6 (by simp) (by omega) (by decide)
  have o7 : G7.2.2 G.1 = some (.inr (6, [.int 0, .ref N0.2.1, .ref (G.1 + 2), .ref (G.1 + 3), .int 0, .int 0, .int 0, .int 0, .int 0])) := by rw [fr7 _ (by omega) (by omega) (Or.inr rfl)]; exact o6
  have w07 : G7.2.2 (w 0) = some (zQ 1103 0 f0) := by rw [fr7 _ (by omega) (by omega) (Or.inr rfl)]; exact w06
  obtain ⟨e8, G8, r8, w8, A8, ne8, B8, ew8, fr8, kp8, z8, y8, x8⟩ := MI_step (w := w) (K := fun G23 => rV G23) (n := 5998) (i := 1) w7 o7 rfl w07 A7 (by simp) ne7 (by decide)
  have e7e : e7 = G.1 + 5 := by
    rcases ew7.2 with h | h
    · exact absurd h ew7.1
    · omega
  have o8 : G8.2.2 G.1 = some (.inr (6, [.int 0, .ref N0.2.1, .ref (G.1 + 2), .ref (G.1 + 3), .int 0, .int 0, .int 0, .int 0, .int 0])) := by rw [fr8 _ (by omega) (by omega) (Or.inl (by omega))]; exact o7
  have p8 : G8.2.2 (G.1 + 2) = some (zQ 104 6 (fun _ => none)) := by
    rw [fr8 _ (by omega) (by omega) (Or.inl (by omega)), fr7 _ (by omega) (by omega) (Or.inr rfl), m6 _ (by omega), m5 _ (by omega), m4 _ (by omega)]; exact p3
  have c8 : G8.2.2 (G.1 + 3) = some (zQ 105 3 (fun _ => none)) := by
    rw [fr8 _ (by omega) (by omega) (Or.inl (by omega)), fr7 _ (by omega) (by omega) (Or.inr rfl), m6 _ (by omega)]; exact p5
  have w08 : G8.2.2 (w 0) = some (zQ 1103 0 f0) := by rw [fr8 _ (by omega) (by omega) (Or.inl (by omega))]; exact w07
  have B7' : isAL w G8 G6.2.1 (w 0) [] := B7.cell (fr8 _ (by omega) (by omega) (Or.inl (by omega))) (fr8 _ (by omega) (by omega) (Or.inl (by omega))) kp8
  refine ⟨G8, ((N0.2.1, e8, G.1 + 2, G.1 + 3), (fun i => if i = 0 then G6.2.1 else G7.2.1), fun _ => w 0, fun _ => 0, fun _ => none, fun _ => none), ?_, ⟨w8, ⟨f0, w08⟩, o8, A8, fun i hi => ?_, p8, c8, fun i hi t ht => absurd ht List.not_mem_nil, fun p hp => trivial, fun c hc => trivial, ⟨?_, fun i hi => ⟨?_, ew8.1⟩, fun _ => rfl, fun i j q _ _ h => (by cases h), fun i j q _ _ h => (by cases h)⟩, fun i hi => Nat.zero_le _⟩, fun q hq => ?_, by omega, by omega, by omega⟩
  · unfold f_M_init gNewO
    try dsimp only
    rw [a1, bV_rV, gPut_of o1 (by decide)]
    show gNewQ (gUp G1 G.1 (.inr (6, [.int 0, .ref N0.2.1, .null, .null, .int 0, .int 0, .int 0, .int 0, .int 0]))) 104 (nI 6) _ = _
    rw [hG2, gNewQ_of (by decide), hG3, s2.1]
    try dsimp only
    rw [gPut_of o3 (Nat.le_of_ble_eq_true rfl)]
    show gNewQ (gUp G3 G.1 (.inr (6, [.int 0, .ref N0.2.1, .ref (G.1 + 2), .null, .int 0, .int 0, .int 0, .int 0, .int 0]))) 105 (nI 3) _ = _
    rw [hG4, gNewQ_of (by decide), hG5, s4.1]
    try dsimp only
    rw [gPut_of o5 (Nat.le_of_ble_eq_true rfl)]
    show f_M_init_L34 w _ (5999 + 1) (gUp G5 G.1 (.inr (6, [.int 0, .ref N0.2.1, .ref (G.1 + 2), .ref (G.1 + 3), .int 0, .int 0, .int 0, .int 0, .int 0]))) G.1 (nI 0) = _
    rw [hG6, r7]
    show f_M_init_L34 w _ (5998 + 1) G7 G.1 (nI 1) = _
    rw [r8]
    show (if (nI 2) ≤ (nI 2) then _ else _) = _
    rw [if_pos (by decide)]
  · match i, hi with
    | 0, _ => exact B7'
    | 1, _ => exact B8
  · show G6.2.1 ≠ G7.2.1
    omega
  · show N0.2.1 ≠ (if i = 0 then G6.2.1 else G7.2.1)
    split <;> omega
  · rw [fr8 _ (by omega) (by omega) (Or.inl (by omega)), fr7 _ (by omega) (by omega) (Or.inr rfl)]
    exact old6 q hq
end MI
end
section
/-! The law's loop, at the level of the heap's view. -/
theorem and63 (x : Int32) : ∃ k : Nat, k < 64 ∧ x &&& nI 63 = nI k := by
  refine ⟨x.toBitVec.toNat &&& 63, Nat.lt_of_le_of_lt Nat.and_le_right (by decide), ?_⟩
  refine Int32.toBitVec_inj.mp (BitVec.eq_of_toNat_eq ?_)
  have h : x.toBitVec.toNat &&& 63 < 2 ^ 32 := Nat.lt_of_le_of_lt Nat.and_le_right (by decide)
  have e : (nI (x.toBitVec.toNat &&& 63)).toBitVec.toNat = x.toBitVec.toNat &&& 63 := by
    show (BitVec.ofNat 32 (x.toBitVec.toNat &&& 63)).toNat = _
    rw [BitVec.toNat_ofNat, Nat.mod_eq_of_lt h]
  rw [e, Int32.toBitVec_and, BitVec.toNat_and]
  rfl
theorem k_O_init {l : Launch} {D : va_G} {B : Nat} {O : State → Heap → Prop} (hV : zG l D B O) (G : gH) (a0 : Nat) : gMet (zVm l D B O) m_O_init 1 [.ref a0] G (rV G) := by
  refine gMet.of (by decide +kernel) (Nat.le_of_ble_eq_true rfl) [some (.ref a0)] (fun ls h => zEn_ok (n := 1) h) ?_
  intro o Gf h
  refine Y.blk (pc' := 1) (L' := [some (.ref a0)]) (st' := [.ref a0]) (sg := [(.aload_n 0, 0)]) (by decide +kernel) rfl ?_
  refine Y.objInit lk_O_1 in_OJ_init cw_OJ_init (by decide) rfl (Nat.le_of_ble_eq_true rfl) (by decide +kernel) ?_
  exact Y.vret rfl (by decide +kernel) h
def lQ : Option Value → zH → Prop := fun v _ => v = some (.int 1)
def lQX : String → zH → Prop := fun _ _ => False

def swO : Array Int := #[205, 245, 297, 349, 389, 441, 481, 521, 561, 601, 653, 681, 733, 773, 829, 869, 897, 937, 989, 1041, 1069, 1109, 1137, 1165, 1205, 1233, 1273, 1329, 1357, 1385, 1425, 1465, 1505, 1545, 1585, 1625, 1665, 1705, 1745, 1785, 1841, 1869, 1897, 1937, 2006, 2034, 2047, 2060]
theorem law_end {V : zV} {mc ms : Nat} {L : zLs} {G : zH} : Z V m_law 40 lQ lQX mc ms 2122 L [] G :=
  Z.blk (pc' := 2123) (L' := L) (st' := [.int (nI 1)]) (sg := [(.iconst 1, nI 1)]) (by decide +kernel) rfl (Z.iret (st := []) rfl rfl (by decide +kernel) rfl)
set_option maxRecDepth 20000 in
theorem law_case {l : Launch} {D : va_G} {B : Nat} {O : State → Heap → Prop} {w : Nat → Nat} (hV : zGw l D B O w) (hN : zNo O) {mc ms b o q bS Ln m : Nat} {xs : Nat → Int32} {G : zH} (i : Int32) (hX : zSc O B bS Ln xs) (h1 : vp_in (i + nI 1) Ln) (h2 : vp_in (i + nI 2) Ln) (h3 : vp_in (i + nI 3) Ln) (hm : m < 600) (hJ : lJ w b o q bS Ln xs m G) (kk : ∀ (m' : Nat) (G' : zH), m' ≤ m + 1 → lJ w b o q bS Ln xs m' G' → Z (zVm l D B O) m_law 40 lQ lQX mc ms 2116 [some (.ref bS), some (.ref b), some (.ref o), some (.ref q), some (.int i), none, none] [] G') (k : Nat) (hk : k < 64) : Z (zVm l D B O) m_law 40 lQ lQX (mc + 400 + 9) (ms + 12000 + 846) 43 [some (.ref bS), some (.ref b), some (.ref o), some (.ref q), some (.int i), none, none] [.int (nI k)] G := by
  have hd : decode m_law.2.1 43 = .ok (.tableswitch 2073 0 47 swO, 205) := by decide +kernel
  match k, hk with
  | 0, _ => exact Z.swIn (off := 205) (tgt := 248) hd (by decide +kernel) (by decide +kernel) (by decide +kernel) (by decide) (lc_0 hV hN i hX h1 h2 h3 hm hJ kk)
  | 1, _ => exact Z.swIn (off := 245) (tgt := 288) hd (by decide +kernel) (by decide +kernel) (by decide +kernel) (by decide) (lc_1 hV hN i hX h1 h2 h3 hm hJ kk)
  | 2, _ => exact Z.swIn (off := 297) (tgt := 340) hd (by decide +kernel) (by decide +kernel) (by decide +kernel) (by decide) (lc_2 hV hN i hX h1 h2 h3 hm hJ kk)
  | 3, _ => exact Z.swIn (off := 349) (tgt := 392) hd (by decide +kernel) (by decide +kernel) (by decide +kernel) (by decide) (lc_3 hV hN i hX h1 h2 h3 hm hJ kk)
  | 4, _ => exact Z.swIn (off := 389) (tgt := 432) hd (by decide +kernel) (by decide +kernel) (by decide +kernel) (by decide) (lc_4 hV hN i hX h1 h2 h3 hm hJ kk)
  | 5, _ => exact Z.swIn (off := 441) (tgt := 484) hd (by decide +kernel) (by decide +kernel) (by decide +kernel) (by decide) (lc_5 hV hN i hX h1 h2 h3 hm hJ kk)
  | 6, _ => exact Z.swIn (off := 481) (tgt := 524) hd (by decide +kernel) (by decide +kernel) (by decide +kernel) (by decide) (lc_6 hV hN i hX h1 h2 h3 hm hJ kk)
  | 7, _ => exact Z.swIn (off := 521) (tgt := 564) hd (by decide +kernel) (by decide +kernel) (by decide +kernel) (by decide) (lc_7 hV hN i hX h1 h2 h3 hm hJ kk)
  | 8, _ => exact Z.swIn (off := 561) (tgt := 604) hd (by decide +kernel) (by decide +kernel) (by decide +kernel) (by decide) (lc_8 hV hN i hX h1 h2 h3 hm hJ kk)
  | 9, _ => exact Z.swIn (off := 601) (tgt := 644) hd (by decide +kernel) (by decide +kernel) (by decide +kernel) (by decide) (lc_9 hV hN i hX h1 h2 h3 hm hJ kk)
  | 10, _ => exact Z.swIn (off := 653) (tgt := 696) hd (by decide +kernel) (by decide +kernel) (by decide +kernel) (by decide) (lc_10 hV hN i hX h1 h2 h3 hm hJ kk)
  | 11, _ => exact Z.swIn (off := 681) (tgt := 724) hd (by decide +kernel) (by decide +kernel) (by decide +kernel) (by decide) (lc_11 hV hN i hX h1 h2 h3 hm hJ kk)
  | 12, _ => exact Z.swIn (off := 733) (tgt := 776) hd (by decide +kernel) (by decide +kernel) (by decide +kernel) (by decide) (lc_12 hV hN i hX h1 h2 h3 hm hJ kk)
  | 13, _ => exact Z.swIn (off := 773) (tgt := 816) hd (by decide +kernel) (by decide +kernel) (by decide +kernel) (by decide) (lc_13 hV hN i hX h1 h2 h3 hm hJ kk)
  | 14, _ => exact Z.swIn (off := 829) (tgt := 872) hd (by decide +kernel) (by decide +kernel) (by decide +kernel) (by decide) (lc_14 hV hN i hX h1 h2 h3 hm hJ kk)
  | 15, _ => exact Z.swIn (off := 869) (tgt := 912) hd (by decide +kernel) (by decide +kernel) (by decide +kernel) (by decide) (lc_15 hV hN i hX h1 h2 h3 hm hJ kk)
  | 16, _ => exact Z.swIn (off := 897) (tgt := 940) hd (by decide +kernel) (by decide +kernel) (by decide +kernel) (by decide) (lc_16 hV hN i hX h1 h2 h3 hm hJ kk)
  | 17, _ => exact Z.swIn (off := 937) (tgt := 980) hd (by decide +kernel) (by decide +kernel) (by decide +kernel) (by decide) (lc_17 hV hN i hX h1 h2 h3 hm hJ kk)
  | 18, _ => exact Z.swIn (off := 989) (tgt := 1032) hd (by decide +kernel) (by decide +kernel) (by decide +kernel) (by decide) (lc_18 hV hN i hX h1 h2 h3 hm hJ kk)
  | 19, _ => exact Z.swIn (off := 1041) (tgt := 1084) hd (by decide +kernel) (by decide +kernel) (by decide +kernel) (by decide) (lc_19 hV hN i hX h1 h2 h3 hm hJ kk)
  | 20, _ => exact Z.swIn (off := 1069) (tgt := 1112) hd (by decide +kernel) (by decide +kernel) (by decide +kernel) (by decide) (lc_20 hV hN i hX h1 h2 h3 hm hJ kk)
  | 21, _ => exact Z.swIn (off := 1109) (tgt := 1152) hd (by decide +kernel) (by decide +kernel) (by decide +kernel) (by decide) (lc_21 hV hN i hX h1 h2 h3 hm hJ kk)
  | 22, _ => exact Z.swIn (off := 1137) (tgt := 1180) hd (by decide +kernel) (by decide +kernel) (by decide +kernel) (by decide) (lc_22 hV hN i hX h1 h2 h3 hm hJ kk)
  | 23, _ => exact Z.swIn (off := 1165) (tgt := 1208) hd (by decide +kernel) (by decide +kernel) (by decide +kernel) (by decide) (lc_23 hV hN i hX h1 h2 h3 hm hJ kk)
  | 24, _ => exact Z.swIn (off := 1205) (tgt := 1248) hd (by decide +kernel) (by decide +kernel) (by decide +kernel) (by decide) (lc_24 hV hN i hX h1 h2 h3 hm hJ kk)
  | 25, _ => exact Z.swIn (off := 1233) (tgt := 1276) hd (by decide +kernel) (by decide +kernel) (by decide +kernel) (by decide) (lc_25 hV hN i hX h1 h2 h3 hm hJ kk)
  | 26, _ => exact Z.swIn (off := 1273) (tgt := 1316) hd (by decide +kernel) (by decide +kernel) (by decide +kernel) (by decide) (lc_26 hV hN i hX h1 h2 h3 hm hJ kk)
  | 27, _ => exact Z.swIn (off := 1329) (tgt := 1372) hd (by decide +kernel) (by decide +kernel) (by decide +kernel) (by decide) (lc_27 hV hN i hX h1 h2 h3 hm hJ kk)
  | 28, _ => exact Z.swIn (off := 1357) (tgt := 1400) hd (by decide +kernel) (by decide +kernel) (by decide +kernel) (by decide) (lc_28 hV hN i hX h1 h2 h3 hm hJ kk)
  | 29, _ => exact Z.swIn (off := 1385) (tgt := 1428) hd (by decide +kernel) (by decide +kernel) (by decide +kernel) (by decide) (lc_29 hV hN i hX h1 h2 h3 hm hJ kk)
  | 30, _ => exact Z.swIn (off := 1425) (tgt := 1468) hd (by decide +kernel) (by decide +kernel) (by decide +kernel) (by decide) (lc_30 hV hN i hX h1 h2 h3 hm hJ kk)
  | 31, _ => exact Z.swIn (off := 1465) (tgt := 1508) hd (by decide +kernel) (by decide +kernel) (by decide +kernel) (by decide) (lc_31 hV hN i hX h1 h2 h3 hm hJ kk)
  | 32, _ => exact Z.swIn (off := 1505) (tgt := 1548) hd (by decide +kernel) (by decide +kernel) (by decide +kernel) (by decide) (lc_32 hV hN i hX h1 h2 h3 hm hJ kk)
  | 33, _ => exact Z.swIn (off := 1545) (tgt := 1588) hd (by decide +kernel) (by decide +kernel) (by decide +kernel) (by decide) (lc_33 hV hN i hX h1 h2 h3 hm hJ kk)
  | 34, _ => exact Z.swIn (off := 1585) (tgt := 1628) hd (by decide +kernel) (by decide +kernel) (by decide +kernel) (by decide) (lc_34 hV hN i hX h1 h2 h3 hm hJ kk)
  | 35, _ => exact Z.swIn (off := 1625) (tgt := 1668) hd (by decide +kernel) (by decide +kernel) (by decide +kernel) (by decide) (lc_35 hV hN i hX h1 h2 h3 hm hJ kk)
  | 36, _ => exact Z.swIn (off := 1665) (tgt := 1708) hd (by decide +kernel) (by decide +kernel) (by decide +kernel) (by decide) (lc_36 hV hN i hX h1 h2 h3 hm hJ kk)
  | 37, _ => exact Z.swIn (off := 1705) (tgt := 1748) hd (by decide +kernel) (by decide +kernel) (by decide +kernel) (by decide) (lc_37 hV hN i hX h1 h2 h3 hm hJ kk)
  | 38, _ => exact Z.swIn (off := 1745) (tgt := 1788) hd (by decide +kernel) (by decide +kernel) (by decide +kernel) (by decide) (lc_38 hV hN i hX h1 h2 h3 hm hJ kk)
  | 39, _ => exact Z.swIn (off := 1785) (tgt := 1828) hd (by decide +kernel) (by decide +kernel) (by decide +kernel) (by decide) (lc_39 hV hN i hX h1 h2 h3 hm hJ kk)
  | 40, _ => exact Z.swIn (off := 1841) (tgt := 1884) hd (by decide +kernel) (by decide +kernel) (by decide +kernel) (by decide) (lc_40 hV hN i hX h1 h2 h3 hm hJ kk)
  | 41, _ => exact Z.swIn (off := 1869) (tgt := 1912) hd (by decide +kernel) (by decide +kernel) (by decide +kernel) (by decide) (lc_41 hV hN i hX h1 h2 h3 hm hJ kk)
  | 42, _ => exact Z.swIn (off := 1897) (tgt := 1940) hd (by decide +kernel) (by decide +kernel) (by decide +kernel) (by decide) (lc_42 hV hN i hX h1 h2 h3 hm hJ kk)
  | 43, _ => exact Z.swIn (off := 1937) (tgt := 1980) hd (by decide +kernel) (by decide +kernel) (by decide +kernel) (by decide) (lc_43 hV hN i hX h1 h2 h3 hm hJ kk)
  | 44, _ => exact Z.swIn (off := 2006) (tgt := 2049) hd (by decide +kernel) (by decide +kernel) (by decide +kernel) (by decide) (lc_44 hV hN i hX h1 h2 h3 hm hJ kk)
  | 45, _ => exact Z.swIn (off := 2034) (tgt := 2077) hd (by decide +kernel) (by decide +kernel) (by decide +kernel) (by decide) (lc_45 hV hN i hX h1 h2 h3 hm hJ kk)
  | 46, _ => exact Z.swIn (off := 2047) (tgt := 2090) hd (by decide +kernel) (by decide +kernel) (by decide +kernel) (by decide) (lc_46 hV hN i hX h1 h2 h3 hm hJ kk)
  | 47, _ => exact Z.swIn (off := 2060) (tgt := 2103) hd (by decide +kernel) (by decide +kernel) (by decide +kernel) (by decide) (lc_47 hV hN i hX h1 h2 h3 hm hJ kk)
  | k + 48, hk =>
    have e : (nI (k + 48)).toInt = ((k + 48 : Nat) : Int) := nI_toInt (by omega)
    exact Z.swOut (tgt := 2116) hd (Or.inr (by rw [e]; omega)) (by decide) (Z.room (Nat.le_refl _) (by omega) (by omega) (kk m G (Nat.le_succ m) hJ))
theorem law_loop {l : Launch} {D : va_G} {B : Nat} {O : State → Heap → Prop} {w : Nat → Nat} (hV : zGw l D B O w) (hN : zNo O) {b o q bS Ln : Nat} {xs : Nat → Int32} (hL : Ln ≤ 2048) (hX : zSc O B bS Ln xs) : ∀ (r j m : Nat) (G : zH), j + r = Ln / 4 → m ≤ j → lJ w b o q bS Ln xs m G →
    Z (zVm l D B O) m_law 40 lQ lQX (r * 409) (r * 12846) 27 [some (.ref bS), some (.ref b), some (.ref o), some (.ref q), some (.int (nI (4 * j))), none, none] [] G := by
  intro r
  induction r with
  | zero =>
    intro j m G hj hm hJ
    refine Z.blk (pc' := 30) (L' := [some (.ref bS), some (.ref b), some (.ref o), some (.ref q), some (.int (nI (4 * j))), none, none]) (st' := [.ref bS, .int (nI (4 * j))]) (sg := [(.iload 4, 0), (.aload_n 0, 0)]) (by decide +kernel) rfl ?_
    refine Z.slen hX (by decide +kernel) ?_
    refine Z.blk (pc' := 33) (L' := [some (.ref bS), some (.ref b), some (.ref o), some (.ref q), some (.int (nI (4 * j))), none, none]) (st' := [.int (nI Ln - nI 4), .int (nI (4 * j))]) (sg := [(.iconst 4, nI 4), (.isub, 0)]) (by decide +kernel) rfl ?_
    refine Z.ic_gt (off := 2089) (tgt := 2122) (by decide +kernel) (by decide) (fun _ => law_end) (fun c => absurd ?_ c)
    by_cases h4 : 4 ≤ Ln
    · rw [nI_sub h4]
      exact nI_lt (by omega) (by omega)
    · have hj0 : j = 0 := by omega
      subst hj0
      have : Ln = 0 ∨ Ln = 1 ∨ Ln = 2 ∨ Ln = 3 := by omega
      rcases this with rfl | rfl | rfl | rfl <;> decide
  | succ r ih =>
    intro j m G hj hm hJ
    have h4 : 4 * j + 4 ≤ Ln := by omega
    refine Z.blk (pc' := 30) (L' := [some (.ref bS), some (.ref b), some (.ref o), some (.ref q), some (.int (nI (4 * j))), none, none]) (st' := [.ref bS, .int (nI (4 * j))]) (sg := [(.iload 4, 0), (.aload_n 0, 0)]) (by decide +kernel) rfl ?_
    refine Z.slen hX (by decide +kernel) ?_
    refine Z.blk (pc' := 33) (L' := [some (.ref bS), some (.ref b), some (.ref o), some (.ref q), some (.int (nI (4 * j))), none, none]) (st' := [.int (nI Ln - nI 4), .int (nI (4 * j))]) (sg := [(.iconst 4, nI 4), (.isub, 0)]) (by decide +kernel) rfl ?_
    refine Z.ic_gt (off := 2089) (tgt := 2122) (by decide +kernel) (by decide) (fun _ => law_end) (fun _ => ?_)
    refine Z.blk (pc' := 39) (L' := [some (.ref bS), some (.ref b), some (.ref o), some (.ref q), some (.int (nI (4 * j))), none, none]) (st' := [.int (nI (4 * j)), .ref bS]) (sg := [(.aload_n 0, 0), (.iload 4, 0)]) (by decide +kernel) rfl ?_
    refine Z.sald hX (vp_in_nI (by omega) (by omega)) (by decide +kernel) ?_
    refine Z.blk (pc' := 43) (L' := [some (.ref bS), some (.ref b), some (.ref o), some (.ref q), some (.int (nI (4 * j))), none, none]) (st' := [.int (xs (nI (4 * j)).toNatClampNeg &&& nI 63)]) (sg := [(.bipush 63, nI 63), (.iand, 0)]) (by decide +kernel) rfl ?_
    obtain ⟨k, hk, ek⟩ := and63 (xs (nI (4 * j)).toNatClampNeg)
    rw [ek]
    refine Z.room (mc' := r * 409 + 400 + 9) (ms' := r * 12846 + 12000 + 846) (Nat.le_refl _) (by omega) (by omega) ?_
    refine law_case hV hN (nI (4 * j)) hX (by rw [nI_add]; exact vp_in_nI (by omega) (by omega)) (by rw [nI_add]; exact vp_in_nI (by omega) (by omega)) (by rw [nI_add]; exact vp_in_nI (by omega) (by omega)) (by omega) hJ (fun m' G' hm' hJ' => ?_) k hk
    refine Z.blk (pc' := 2119) (L' := [some (.ref bS), some (.ref b), some (.ref o), some (.ref q), some (.int (nI (4 * j) + nI 4)), none, none]) (st' := []) (sg := [(.iinc 4 4, nI 4)]) (by decide +kernel) rfl ?_
    refine Z.goto (off := -2092) (tgt := 27) (by decide +kernel) (by decide) ?_
    rw [nI_add]
    exact ih (j + 1) m' G' (by omega) (by omega) hJ'
end
section
/-! The law's start. -/
section LE
variable {w : Nat → Nat}
theorem mWs_old {G G' : zH} (h : mWs w (0, G)) (hw : gWf (0, G)) (hB : ∀ q, q < G.1 → G'.2 q = G.2 q) : mWs w (0, G') := by
  obtain ⟨⟨g1, h1⟩, ⟨g2, h2⟩, h3, h5, h7⟩ := h
  have hB' : gB G.1 (0, G) (0, G') := hB
  exact ⟨⟨g1, (hB _ (hw _ _ h1)).trans h1⟩, ⟨g2, (hB _ (hw _ _ h2)).trans h2⟩, h3.gB hw hB', h5.gB hw hB', h7.gB hw hB'⟩
theorem MS_new {G : zH} {e : zE} {o : Nat} {A : mS} {D : mD} (h : MS w o (0, G) A D) : MS w o (0, zNew G e) A D := by
  have hB : ∀ q, q < G.1 → (zNew G e).2 q = G.2 q := fun q hq => zNew_ne _ _ (by omega)
  have hsm : gSm (fun _ => True) (0, G) (0, zNew G e) := fun q z hq _ => (hB q (h.1 q z hq)).trans hq
  obtain ⟨f, hf⟩ := h.2.1
  refine ⟨fun q e' hq => gWf.new (n := 0) h.1 q e' hq, ⟨f, hsm _ _ hf trivial⟩, h.2.2.tr (N := fun _ => True) ?_ hsm (gKeep.new h.1 hB) (hsm _ _ h.2.2.1 trivial) rfl rfl rfl⟩
  exact ⟨⟨fun _ => trivial, fun _ _ _ _ => trivial, fun _ => trivial⟩, ⟨fun _ _ => trivial, fun _ _ => trivial⟩, fun _ => trivial, fun _ => trivial⟩
set_option maxRecDepth 20000 in
theorem law_entry {l : Launch} {D : va_G} {B : Nat} {O : State → Heap → Prop} (hV : zGw l D B O w) (hN : zNo O) {bS Ln : Nat} {xs : Nat → Int32} (hL : Ln ≤ 2048) {G : zH} {f0 : Nat → Option Nat} (hw : gWf (0, G)) (h0 : G.2 (w 0) = some (zQ 1103 0 f0)) (hs : mWs w (0, G)) (hX : zSc O B bS Ln xs) :
    Z (zVm l D B O) m_law 40 lQ lQX 778833 6759604 0 [some (.ref bS), none, none, none, none, none, none] [] G := by
  refine Z.room (fr' := 40) (mc' := (Ln / 4) * 409 + 1 + 20 + 1 + 30 + 1) (ms' := (Ln / 4) * 12846 + 2 + 300 + 9 + 200 + 5) (Nat.le_refl _) (by omega) (by omega) ?_
  refine Z.new (ci := 3) (N := 5) (fs := [.null, .null, .int 0, .int 0, .int 0]) nc_L_8 (by decide) bk_X (by decide +kernel) ?_
  refine Z.blk (pc' := 4) (L' := [some (.ref bS), none, none, none, none, none, none]) (st' := [.ref G.1, .ref G.1]) (sg := [(.dup, 0)]) (by decide +kernel) rfl ?_
  obtain ⟨H1, r1, s1, t1, c1, o1⟩ := x_init G
  obtain ⟨⟨g1, g2⟩, g3⟩ := k_X_init hV.1 (0, zNew G (.inr (3, [.null, .null, .int 0, .int 0, .int 0]))) G.1 _ _ r1
  dsimp only at g1 g2 g3
  have z1 : (zNew G (.inr (3, [.null, .null, .int 0, .int 0, .int 0]))).1 = G.1 + 1 := rfl
  refine Z.room (mc' := (Ln / 4) * 409 + 1 + 20 + 1 + (H1.2.1 - (zNew G (.inr (3, [.null, .null, .int 0, .int 0, .int 0]))).1)) (ms' := (Ln / 4) * 12846 + 2 + 300 + 9 + (H1.1 - 0)) (Nat.le_refl _) (by omega) (by omega) ?_
  refine Z.callI (As := []) (b := G.1) (st := [.ref G.1]) (n := 0) hV.1.1 g3 cb_X_init lk_L_168 in_X_init rfl rfl (by decide +kernel) rfl rfl (Nat.le_of_ble_eq_true rfl) (by decide) (fun E' G' hq => absurd hq.1 (by simp)) (fun v G1 hq => ?_)
  obtain ⟨e1, e2⟩ := hq
  obtain rfl := Sum.inr.inj e1
  subst e2
  have old1 : ∀ q, q < G.1 → H1.2.2 q = G.2 q := fun q hq => o1 q (by omega)
  have hw1 : gWf (0, H1.2) := by
    intro q e hq
    show q < H1.2.1
    by_cases hb : G.1 ≤ q ∧ q < G.1 + 23
    · omega
    · have : H1.2.2 q = some e := hq
      rw [o1 q hb] at this
      have := hw q e this
      have : q < G.1 := this
      omega
  have hs1 : mWs w (0, H1.2) := mWs_old hs hw old1
  have h01 : H1.2.2 (w 0) = some (zQ 1103 0 f0) := (old1 _ (hw _ _ h0)).trans h0
  refine Z.blk (pc' := 8) (L' := [some (.ref bS), some (.ref G.1), none, none, none, none, none]) (st' := []) (sg := [(.astore_n 1, 0)]) (by decide +kernel) rfl ?_
  refine Z.new (ci := 6) (N := 9) (fs := [.int 0, .null, .null, .null, .int 0, .int 0, .int 0, .int 0, .int 0]) nc_L_169 (by decide) bk_M (by decide +kernel) ?_
  refine Z.blk (pc' := 12) (L' := [some (.ref bS), some (.ref G.1), none, none, none, none, none]) (st' := [.ref H1.2.1, .ref H1.2.1]) (sg := [(.dup, 0)]) (by decide +kernel) rfl ?_
  obtain ⟨H2, D2, r2, m2, old2, s2, s3, t2⟩ := m_init hw1 h01
  obtain ⟨⟨g4, g5⟩, g6⟩ := k_M_init hV (0, zNew H1.2 (.inr (6, [.int 0, .null, .null, .null, .int 0, .int 0, .int 0, .int 0, .int 0]))) H1.2.1 _ _ r2
  dsimp only at g4 g5 g6
  have z2 : (zNew H1.2 (.inr (6, [.int 0, .null, .null, .null, .int 0, .int 0, .int 0, .int 0, .int 0]))).1 = H1.2.1 + 1 := rfl
  refine Z.room (mc' := (Ln / 4) * 409 + 1 + (H2.2.1 - (zNew H1.2 (.inr (6, [.int 0, .null, .null, .null, .int 0, .int 0, .int 0, .int 0, .int 0]))).1)) (ms' := (Ln / 4) * 12846 + 2 + (H2.1 - 0)) (Nat.le_refl _) (by omega) (by omega) ?_
  refine Z.callI (As := []) (b := H1.2.1) (st := [.ref H1.2.1]) (n := 0) hV.1.1 g6 cb_M_init lk_L_171 in_M_init rfl rfl (by decide +kernel) rfl rfl (Nat.le_of_ble_eq_true rfl) (by decide) (fun E' G' hq => absurd hq.1 (by simp)) (fun v G1 hq => ?_)
  obtain ⟨e1, e2⟩ := hq
  obtain rfl := Sum.inr.inj e1
  subst e2
  have m2' : MS w H1.2.1 (0, H2.2) A0 D2 := m2
  have hw2 : gWf (0, H2.2) := m2'.1
  have hs2 : mWs w (0, H2.2) := mWs_old hs1 hw1 old2
  refine Z.blk (pc' := 16) (L' := [some (.ref bS), some (.ref G.1), some (.ref H1.2.1), none, none, none, none]) (st' := []) (sg := [(.astore_n 2, 0)]) (by decide +kernel) rfl ?_
  refine Z.new (ci := 7) (N := 2) (fs := [.long 0, .null]) nc_L_14 (by decide) bk_O (by decide +kernel) ?_
  refine Z.blk (pc' := 20) (L' := [some (.ref bS), some (.ref G.1), some (.ref H1.2.1), none, none, none, none]) (st' := [.ref H2.2.1, .ref H2.2.1]) (sg := [(.dup, 0)]) (by decide +kernel) rfl ?_
  obtain ⟨⟨g7, g8⟩, g9⟩ := k_O_init hV.1 (0, zNew H2.2 (.inr (7, [.long 0, .null]))) H2.2.1 _ _ rfl
  dsimp only at g7 g8 g9
  refine Z.room (mc' := (Ln / 4) * 409 + ((zNew H2.2 (.inr (7, [.long 0, .null]))).1 - (zNew H2.2 (.inr (7, [.long 0, .null]))).1)) (ms' := (Ln / 4) * 12846 + (0 - 0)) (Nat.le_refl _) (by omega) (by omega) ?_
  refine Z.callIN (As := []) (b := H2.2.1) (st := [.ref H2.2.1]) (n := 0) hV.1.1 g9 cb_O_init lk_L_172 in_O_init rfl rfl (by decide +kernel) rfl rfl (Nat.le_of_ble_eq_true rfl) (by decide) (fun E' G' hq => absurd hq.1 (by simp)) (fun v G1 hq => ?_)
  obtain ⟨e1, e2⟩ := hq
  obtain rfl := Sum.inr.inj e1
  subst e2
  refine Z.blk (pc' := 27) (L' := [some (.ref bS), some (.ref G.1), some (.ref H1.2.1), some (.ref H2.2.1), some (.int (nI (4 * 0))), none, none]) (st' := []) (sg := [(.astore_n 3, 0), (.iconst 0, nI 0), (.istore 4, 0)]) (by decide +kernel) rfl ?_
  refine law_loop hV hN hL hX (Ln / 4) 0 0 _ (by omega) (Nat.le_refl _) ⟨⟨sX, A0, D2, fun j hj => ?_, CRep_0, mInv_0, MS_new m2'⟩, mWs_old hs2 hw2 (fun q hq => zNew_ne _ _ (by omega)), ⟨_, zNew_at _ _, rfl⟩, lScr.i, by omega⟩
  rw [zNew_ne _ _ (by omega), old2 _ (by omega)]
  exact c1 j hj
end LE
end
section
/-! What the claim's premises give of the start. -/
theorem len_x {args : Array Value} {s : State} {t : Term} {N : Nat} (hN : N < 2 ^ 31) (h : (Term.length t).eval args s none [] s = some (.int (Int32.ofNat N))) : ∃ (a : Nat) (cell : Cell), t.eval args s none [] s = some (.ref a) ∧ s.heap[a]? = some cell ∧ cell.vm ≠ .unknown ∧ cell.slots.size = N := by
  simp only [Term.eval, Option.bind_eq_bind] at h
  cases ht : t.eval args s none [] s with
  | none => simp [ht] at h
  | some x =>
    cases x <;> simp [ht] at h
    case ref a =>
      obtain ⟨cell, hcell, h⟩ := Option.bind_eq_some_iff.mp h
      by_cases hn : cell.slots.size < 2147483648
      · rw [if_pos hn] at h
        obtain ⟨hc, hkn, -, -⟩ := State.arrayAt?_spec hcell
        refine ⟨a, cell, rfl, hc, hkn, ?_⟩
        have e : cell.slots.size.toInt32 = Int32.ofNat N := Value.int.inj (Option.some.inj h)
        have e1 := congrArg Int32.toNatClampNeg e
        rw [Int32.toNatClampNeg_ofNat_of_lt hN, show cell.slots.size.toInt32 = Int32.ofNat cell.slots.size from rfl, Int32.toNatClampNeg_ofNat_of_lt (by omega)] at e1
        exact e1
      · rw [if_neg hn] at h; cases h
theorem elem_x {args : Array Value} {s : State} {t : Term} {a j : Nat} {cell : Cell} {v : Value} (ht : t.eval args s none [] s = some (.ref a)) (hc : s.heap[a]? = some cell) (hj : j < 2 ^ 31) (h : (Term.elem t (.int (Int32.ofNat j))).eval args s none [] s = some v) : cell.slots[j]? = some v := by
  obtain ⟨a2, i, cell2, h1, h2, h3, h4, h5⟩ := Term.elem_spec h
  cases ht.symm.trans h1
  obtain ⟨hc2, -, -, -⟩ := State.arrayAt?_spec h3
  cases hc.symm.trans hc2
  have hi : i = Int32.ofNat j := by
    have e : (Term.int (Int32.ofNat j)).eval args s none [] s = some (.int (Int32.ofNat j)) := rfl
    cases h2.symm.trans e
    rfl
  rw [hi, Int32.toNatClampNeg_ofNat_of_lt hj] at h5
  exact h5
/-- a byte array that a term names: its ints -/
def bArr (s : State) (a N : Nat) : Prop := ∃ cell : Cell, s.heap[a]? = some cell ∧ s.vm.findClass "[B" = some cell.cls ∧ cell.vm ≠ .unknown ∧ cell.vm.isStatics = false ∧ cell.slots.size = N ∧ ∀ j, j < N → ∃ x : Int32, cell.slots[j]? = some (.int x) ∧ fits .byte (.int x) = true
theorem bArr_of {args : Array Value} {s : State} {t : Term} {N : Nat} {tab : List Int32} (hN : N < 2 ^ 31) (h1 : (Cond.exactly t "[B").before args s = true) (h2 : (Cond.eq (.length t) (.int (Int32.ofNat N))).before args s = true) (h3 : ∀ j, j < N → (Cond.eq (.elem t (.int (Int32.ofNat j))) (.int (tab.getD j 0))).before args s = true) (h4 : ∀ j, j < N → fits .byte (.int (tab.getD j 0)) = true) :
    ∃ a : Nat, t.eval args s none [] s = some (.ref a) ∧ bArr s a N := by
  obtain ⟨a, cell, q1, q2, q3, q4⟩ := len_x hN (va_eqt h2)
  obtain ⟨a2, c, cA, kA, r1, r2, r3, r4, r5, r6, -⟩ := Cond.exactly_spec (args := args) (first := s) (o := none) (s := s) (idx := []) (t := t) (cls := "[B") h1
  cases q1.symm.trans r1
  cases q2.symm.trans r3
  exact ⟨a, q1, cell, q2, by rw [r6]; exact r2, q3, r5, q4, fun j hj => ⟨_, elem_x q1 q2 (by omega) (va_eqt (h3 j hj)), h4 j hj⟩⟩
/-- a string constant of byte length n at a, its array at e -/
def sStr (s : State) (a e n : Nat) : Prop := va_O "java/lang/String" a (fun q => s.heap.size ≤ q) s s.heap ∧ va_OF "java/lang/String" "coder" "B" (.int 0) a (fun q => s.heap.size ≤ q) s s.heap ∧ va_OF "java/lang/String" "value" "[B" (.ref e) a (fun q => s.heap.size ≤ q) s s.heap ∧ bArr s e n
theorem sStr_of {args : Array Value} {s : State} {t : Term} {N : Nat} {tab : List Int32} (hN : N < 2 ^ 31) (h0 : (Cond.exactly t "java/lang/String").before args s = true) (hc : (Cond.eq (.field t "java/lang/String" "coder" "B") (.int 0)).before args s = true) (h1 : (Cond.exactly (.field t "java/lang/String" "value" "[B") "[B").before args s = true) (h2 : (Cond.eq (.length (.field t "java/lang/String" "value" "[B")) (.int (Int32.ofNat N))).before args s = true) (h3 : ∀ j, j < N → (Cond.eq (.elem (.field t "java/lang/String" "value" "[B") (.int (Int32.ofNat j))) (.int (tab.getD j 0))).before args s = true) (h4 : ∀ j, j < N → fits .byte (.int (tab.getD j 0)) = true) :
    ∃ a e : Nat, t.eval args s none [] s = some (.ref a) ∧ sStr s a e N := by
  obtain ⟨a, c, cA, kA, r1, r2, r3, r4, r5, r6, -⟩ := Cond.exactly_spec (args := args) (first := s) (o := none) (s := s) (idx := []) (t := t) (cls := "java/lang/String") h0
  obtain ⟨e, g1, g2⟩ := bArr_of hN h1 h2 h3 h4
  have hA : ∀ a : Nat, a < s.heap.size → ¬ (fun q => s.heap.size ≤ q) a := fun a h => Nat.not_le.mpr h
  exact ⟨a, e, r1, ⟨cA, r3, r5, by rw [r6]; exact r2, hA a (Array.getElem?_eq_some_iff.mp r3).1⟩, vk_OFof r1 (va_eqt hc) hA, vk_OFof r1 g1 hA, g2⟩
/-- what is told of the old cells -/
def lO (B bS Ln : Nat) (xs : Nat → Int32) (w : Nat → Nat) (U : State) (H : Heap) : Prop :=
  (vx_Zq Bundle.tN "UNASSIGNED_STACK" Bundle.steD (fun q => B ≤ q) U H ∧ vx_Zq Bundle.tN "SUPPRESSED_SENTINEL" Bundle.listD (fun q => B ≤ q) U H ∧ ∀ own k tx, (own, k, tx) ∈ zStr → ∃ sa : Nat, vk_R own k tx sa U) ∧
  (va_Z "java/util/ArrayList" "DEFAULTCAPACITY_EMPTY_ELEMENTDATA" "[Ljava/lang/Object;" (.ref (w 0)) (fun q => B ≤ q) U H ∧ va_Z "java/lang/Integer" "DigitOnes" "[B" (.ref (w 1)) (fun q => B ≤ q) U H ∧ va_Z "java/lang/Integer" "DigitTens" "[B" (.ref (w 2)) (fun q => B ≤ q) U H ∧ va_Z "java/lang/String" "COMPACT_STRINGS" "Z" (.int (nI 1)) (fun q => B ≤ q) U H ∧
    vk_R "PartlisterModel" 265 "," (w 3) U ∧ vk_R "PartlisterModel" 263 "" (w 5) U ∧ vk_R "PartlisterModel" 277 "-" (w 7) U ∧ vk_R "Partlister" 220 "-" (w 9) U ∧ va_Mi "[Ljava/lang/Object;" (w 11) U) ∧
  (va_Nc "java/lang/IllegalArgumentException" "java/lang/IndexOutOfBoundsException" U ∧ va_Nc "java/lang/IllegalStateException" "java/lang/IndexOutOfBoundsException" U ∧ va_Nc "java/lang/IllegalStateException" "java/lang/IllegalArgumentException" U) ∧
  va_X bS Ln xs U H ∧ bS < B
theorem lO_ok {l : Launch} {D : va_G} {B bS Ln : Nat} {xs : Nat → Int32} {w : Nat → Nat} (hl : l.stackTraces = false) : zOk (zVm l D B (lO B bS Ln xs w)) := by
  refine ⟨hl, fun u U H hv h => ?_, fun u U H H1 hW hk hz h => ?_⟩
  · have hA : u.vm.Alike U.vm := by rw [hv]; exact Vm.Alike.refl _
    obtain ⟨⟨a1, a2, a3⟩, ⟨b0, b1, b2, b3, b4, b5, b6, b7, b8⟩, ⟨c1, c2, c3⟩, d1, d2⟩ := h
    exact ⟨⟨a1.moved hA, a2.moved hA, fun o k t ht => (a3 o k t ht).imp fun sa q => q.same hv.symm⟩, ⟨b0.moved hA, b1.moved hA, b2.moved hA, b3.moved hA, b4.same hv.symm, b5.same hv.symm, b6.same hv.symm, b7.same hv.symm, b8.moved hA⟩, ⟨c1.moved hA, c2.moved hA, c3.moved hA⟩, d1.moved hA, d2⟩
  · have hA : u.vm.Alike U.vm := hW.alike
    have hk' : ∀ a : Nat, a < H.size → ¬ (fun q => B ≤ q) a → H1[a]? = H[a]? := hk
    obtain ⟨⟨a1, a2, a3⟩, ⟨b0, b1, b2, b3, b4, b5, b6, b7, b8⟩, ⟨c1, c2, c3⟩, d1, d2⟩ := h
    have hb : bS < H.size := by
      obtain ⟨scr, h1, -⟩ := d1
      exact (Array.getElem?_eq_some_iff.mp h1).1
    exact ⟨⟨(a1.moved hA).kept hk', (a2.moved hA).kept hk', fun o k t ht => (a3 o k t ht).imp fun sa q => q.warm hW⟩, ⟨(b0.moved hA).kept hk', (b1.moved hA).kept hk', (b2.moved hA).kept hk', (b3.moved hA).kept hk', b4.warm hW, b5.warm hW, b6.warm hW, b7.warm hW, b8.moved hA⟩, ⟨c1.moved hA, c2.moved hA, c3.moved hA⟩, (d1.moved hA).kept (hk' bS hb (Nat.not_le.mpr d2)), d2⟩
theorem lO_gw {l : Launch} {D : va_G} {B bS Ln : Nat} {xs : Nat → Int32} {w : Nat → Nat} (hl : l.stackTraces = false) : zGw l D B (lO B bS Ln xs w) w := by
  refine ⟨⟨lO_ok hl, fun own k tx ht U H h => ⟨h.1.1, h.1.2.1, h.1.2.2 own k tx ht⟩⟩, fun U H h => h.2.1⟩
theorem lO_no {B bS Ln : Nat} {xs : Nat → Int32} {w : Nat → Nat} : zNo (lO B bS Ln xs w) := fun U H h => h.2.2.1
theorem lO_sc {B bS Ln : Nat} {xs : Nat → Int32} {w : Nat → Nat} (h : bS < B) : zSc (lO B bS Ln xs w) B bS Ln xs := ⟨fun U H h => h.2.2.2.1, h⟩
end
section
/-! The classes, and the view of the old cells. -/
theorem arr_p {s : State} {args : Array Value} {ty : FieldType} (h : (Cond.arrayClass ty).before args s = true) : ∃ cA : ClassId, ArrOfT s cA ty ∧ s.vm.findClass ("[" ++ ty.toString) = some cA := by
  obtain ⟨c, k, comp, h1, h2, h3⟩ := Cond.arrayClass_spec h
  exact ⟨c, fun N z => ⟨(fun k h => by cases h), k, h2, comp, h3⟩, h1⟩
theorem arr_o {s : State} {args : Array Value} {C : String} (h : (Cond.arrayOver (.object C)).before args s = true) : ∃ cA : ClassId, ArrOfT s cA (.object C) ∧ va_RA s cA (.object C) := by
  obtain ⟨comp, c, k, h1, h2, h3, h4, h5⟩ := Cond.arrayOver_spec h
  exact ⟨c, fun N z => ⟨(fun k h => by cases h), k, h3, comp, h4⟩, k, comp, h3, h4, h1, h5⟩
theorem zK_of {s : State} {args : Array Value} (hts : ∀ w ∈ zT, w.before args s = true) : ∃ D : va_G, zKn D zCl zTys s := by
  obtain ⟨c0, i0, h0⟩ := u_known (C := "Partlister$Cursors") (T := T_U) (N := 5) (n := 5) hts uw_U (hts _ (zU1 83 (by decide +kernel) rfl : Cond.instantiable "Partlister$Cursors" 5 ∈ zT))
  obtain ⟨c1, i1, h1⟩ := u_known (C := "Partlister$Lists") (T := T_I) (N := 7) (n := 7) hts uw_I (hts _ (zU1 40 (by decide +kernel) rfl : Cond.instantiable "Partlister$Lists" 7 ∈ zT))
  obtain ⟨c2, i2, h2⟩ := u_known (C := "Partlister$Numbers") (T := T_N) (N := 1) (n := 1) hts uw_N (hts _ (zU1 46 (by decide +kernel) rfl : Cond.instantiable "Partlister$Numbers" 1 ∈ zT))
  obtain ⟨c3, i3, h3⟩ := u_known (C := "Partlister") (T := T_X) (N := 5) (n := 5) hts uw_X (hts _ (zU1 32 (by decide +kernel) rfl : Cond.instantiable "Partlister" 5 ∈ zT))
  obtain ⟨c4, i4, h4⟩ := u_known (C := "PartlisterModel$Cursor") (T := T_MC) (N := 4) (n := 4) hts uw_MC (hts _ (zU7 197 (by decide +kernel) rfl : Cond.instantiable "PartlisterModel$Cursor" 4 ∈ zT))
  obtain ⟨c5, i5, h5⟩ := u_known (C := "PartlisterModel$Part") (T := T_MP) (N := 3) (n := 3) hts uw_MP (hts _ (zU7 166 (by decide +kernel) rfl : Cond.instantiable "PartlisterModel$Part" 3 ∈ zT))
  obtain ⟨c6, i6, h6⟩ := u_known (C := "PartlisterModel") (T := T_M) (N := 9) (n := 9) hts uw_M (hts _ (zU6 40 (by decide +kernel) rfl : Cond.instantiable "PartlisterModel" 9 ∈ zT))
  obtain ⟨c7, i7, h7⟩ := u_known (C := "PartlisterLaw$Out") (T := T_O) (N := 2) (n := 2) hts uw_O (hts _ (zU2 107 (by decide +kernel) rfl : Cond.instantiable "PartlisterLaw$Out" 2 ∈ zT))
  obtain ⟨c8, i8, h8⟩ := u_known (C := "java/lang/String") (T := T_ST) (N := 4) (n := 4) hts uw_ST (hts _ (zU5 154 (by decide +kernel) rfl : Cond.instantiable "java/lang/String" 4 ∈ zT))
  obtain ⟨c9, i9, h9⟩ := u_known (C := "java/util/ArrayList") (T := T_AL) (N := 3) (n := 3) hts uw_AL (hts _ (zU6 46 (by decide +kernel) rfl : Cond.instantiable "java/util/ArrayList" 3 ∈ zT))
  obtain ⟨c10, i10, h10⟩ := u_known (C := "java/lang/StringBuilder") (T := T_SB) (N := 4) (n := 4) hts uw_SB (hts _ (zU4 230 (by decide +kernel) rfl : Cond.instantiable "java/lang/StringBuilder" 4 ∈ zT))
  obtain ⟨a0, p0, q0⟩ := arr_p (hts _ ac_i)
  obtain ⟨a1, p1, q1⟩ := arr_p (hts _ ac_b)
  obtain ⟨a2, p2, q2⟩ := arr_p (hts _ ac_z)
  obtain ⟨a3, p3, q3⟩ := arr_o (hts _ ao_OJ)
  obtain ⟨a4, p4, q4⟩ := arr_o (hts _ ao_MP)
  obtain ⟨a5, p5, q5⟩ := arr_o (hts _ ao_MC)
  refine ⟨(fun k => match k with | 0 => c0 | 1 => c1 | 2 => c2 | 3 => c3 | 4 => c4 | 5 => c5 | 6 => c6 | 7 => c7 | 8 => c8 | 9 => c9 | 10 => c10 | 100 => a0 | 101 => a1 | 102 => a2 | 103 => a3 | 104 => a4 | _ => a5, fun k => match k with | 0 => i0 | 1 => i1 | 2 => i2 | 3 => i3 | 4 => i4 | 5 => i5 | 6 => i6 | 7 => i7 | 8 => i8 | 9 => i9 | _ => i10), fun c q hq => ?_, fun k q hq => ?_⟩
  · match c, hq with
    | 0, hq => cases hq; exact h0
    | 1, hq => cases hq; exact h1
    | 2, hq => cases hq; exact h2
    | 3, hq => cases hq; exact h3
    | 4, hq => cases hq; exact h4
    | 5, hq => cases hq; exact h5
    | 6, hq => cases hq; exact h6
    | 7, hq => cases hq; exact h7
    | 8, hq => cases hq; exact h8
    | 9, hq => cases hq; exact h9
    | 10, hq => cases hq; exact h10
    | c + 11, hq => cases hq
  · match k, hq with
    | 0, hq => cases hq; exact ⟨p0, q0⟩
    | 1, hq => cases hq; exact ⟨p1, q1⟩
    | 2, hq => cases hq; exact ⟨p2, q2⟩
    | 3, hq => cases hq; exact ⟨p3, q3⟩
    | 4, hq => cases hq; exact ⟨p4, q4⟩
    | 5, hq => cases hq; exact ⟨p5, q5⟩
    | k + 6, hq => cases hq
def lView (s : State) (D : va_G) (S T : List Nat) (w0 : Nat) (q : Nat) : Option zE :=
  if q = w0 then some (zQ 1103 0 (fun _ => none))
  else if q ∈ S then some (.inr (1008, [.ref (match (s.heap[q]?).bind (fun c => c.slots[D.2 8 0]?) with | some (.ref e) => e | _ => 0), .int 0]))
  else if q ∈ T then some (zI 1101 (match s.heap[q]? with | some c => c.slots.size | none => 0) (fun i => match (s.heap[q]?).bind (fun c => c.slots[i]?) with | some (.int x) => x | _ => 0))
  else none
theorem slots_i {cell : Cell} {N : Nat} {f : Nat → Int32} (hs : cell.slots.size = N) (h : ∀ j, j < N → cell.slots[j]? = some (.int (f j))) : cell.slots = (vp_cell 0 (N, .inl f)).slots := by
  refine Array.ext_getElem? fun i => ?_
  by_cases hi : i < N
  · rw [h i hi, vp_cell_i, arrV_read _ _ hi]
  · rw [Array.getElem?_eq_none (by omega), vp_cell_i, Array.getElem?_eq_none (by rw [arrV_size]; omega)]
theorem slots_0 {cell : Cell} {f : Nat → Option Nat} (hs : cell.slots.size = 0) : cell.slots = (vp_cell 0 (0, .inr (.inr (.inr (.inr f))))).slots := by
  refine Array.ext_getElem? fun i => ?_
  rw [Array.getElem?_eq_none (by omega), vp_cell_q, Array.getElem?_eq_none (by rw [arrV_size]; omega)]
/-- the empty array of references -/
def oArr (s : State) (a : Nat) : Prop := ∃ cell : Cell, s.heap[a]? = some cell ∧ s.vm.findClass "[Ljava/lang/Object;" = some cell.cls ∧ cell.vm ≠ .unknown ∧ cell.vm.isStatics = false ∧ cell.slots.size = 0
section LV
variable {s : State} {D : va_G}
theorem cls_8 (hK : zKn D zCl zTys s) : s.vm.findClass "java/lang/String" = some (D.1 8) ∧ ∃ k : Class, s.vm.classes[D.1 8]? = some k ∧ k.kind = .ordinary := (hK.1 8 _ rfl).2
theorem cls_101 (hK : zKn D zCl zTys s) : s.vm.findClass "[B" = some (D.1 101) ∧ ∃ (k : Class) (comp : ClassId), s.vm.classes[D.1 101]? = some k ∧ k.kind = .array comp .byte := by
  obtain ⟨h1, h2⟩ := hK.2 1 (D.1 101, .byte) rfl
  obtain ⟨-, k, hk, comp, hk2⟩ := h1 0 (fun _ => .null)
  exact ⟨h2, k, comp, hk, hk2⟩
theorem cls_103 (hK : zKn D zCl zTys s) : s.vm.findClass "[Ljava/lang/Object;" = some (D.1 103) ∧ ∃ (k : Class) (comp : ClassId), s.vm.classes[D.1 103]? = some k ∧ k.kind = .array comp (.object "java/lang/Object") := by
  obtain ⟨h1, kA, comp9, -, -, -, h2⟩ := hK.2 3 (D.1 103, .object "java/lang/Object") rfl
  obtain ⟨-, k, hk, comp, hk2⟩ := h1 0 (fun _ => .null)
  exact ⟨h2, k, comp, hk, hk2⟩
theorem ne_8_101 (hK : zKn D zCl zTys s) : D.1 8 ≠ D.1 101 := by
  intro e
  obtain ⟨-, k, h1, h2⟩ := cls_8 hK
  obtain ⟨-, k', comp, h3, h4⟩ := cls_101 hK
  rw [e] at h1
  cases h1.symm.trans h3
  rw [h2] at h4; cases h4
theorem ne_8_103 (hK : zKn D zCl zTys s) : D.1 8 ≠ D.1 103 := by
  intro e
  obtain ⟨-, k, h1, h2⟩ := cls_8 hK
  obtain ⟨-, k', comp, h3, h4⟩ := cls_103 hK
  rw [e] at h1
  cases h1.symm.trans h3
  rw [h2] at h4; cases h4
theorem ne_101_103 (hK : zKn D zCl zTys s) : D.1 101 ≠ D.1 103 := by
  intro e
  obtain ⟨-, k, comp9, h1, h2⟩ := cls_101 hK
  obtain ⟨-, k', comp, h3, h4⟩ := cls_103 hK
  rw [e] at h1
  cases h1.symm.trans h3
  rw [h2] at h4; cases h4
theorem bArr.cls {a N : Nat} (hK : zKn D zCl zTys s) (h : bArr s a N) : ∃ cell : Cell, s.heap[a]? = some cell ∧ cell.cls = D.1 101 := by
  obtain ⟨cell, h1, h2, -⟩ := h
  exact ⟨cell, h1, Option.some.inj (h2.symm.trans (cls_101 hK).1)⟩
theorem oArr.cls {a : Nat} (hK : zKn D zCl zTys s) (h : oArr s a) : ∃ cell : Cell, s.heap[a]? = some cell ∧ cell.cls = D.1 103 := by
  obtain ⟨cell, h1, h2, -⟩ := h
  exact ⟨cell, h1, Option.some.inj (h2.symm.trans (cls_103 hK).1)⟩
theorem sStr.cls {a e n : Nat} (hK : zKn D zCl zTys s) (h : sStr s a e n) : ∃ cell : Cell, s.heap[a]? = some cell ∧ cell.cls = D.1 8 := by
  obtain ⟨⟨cell, h1, -, h2, -⟩, -⟩ := h
  exact ⟨cell, h1, Option.some.inj (h2.symm.trans (cls_8 hK).1)⟩
theorem sStr.val {a e n : Nat} (hK : zKn D zCl zTys s) (h : sStr s a e n) : ∃ cell : Cell, s.heap[a]? = some cell ∧ cell.vm ≠ .unknown ∧ cell.vm.isStatics = false ∧ cell.slots[D.2 8 0]? = some (.ref e) ∧ cell.slots[D.2 8 1]? = some (.int 0) := by
  obtain ⟨⟨cell, h1, h2, -, -⟩, ⟨cf, k, i, f, c2, g1, g2, g3, g4, g5, -⟩, ⟨cf', k', i', f', c3, k1, k2, k3, k4, k5, -⟩, -⟩ := h
  cases h1.symm.trans g3
  cases h1.symm.trans k3
  obtain ⟨hS, -⟩ := hK.1 8 _ rfl
  obtain ⟨x1, x2, x3, fd, e1, e2⟩ := hS 0 (by decide)
  obtain ⟨y1, y2, y3, fe, e3, e4⟩ := hS 1 (by decide)
  have a1 : s.fieldFound? "java/lang/String" "value" "[B" = some (x1, x2, x3, fd) := e1
  have a2 : s.fieldFound? "java/lang/String" "coder" "B" = some (y1, y2, y3, fe) := e3
  cases a1.symm.trans k1
  cases a2.symm.trans g1
  exact ⟨cell, h1, g4, h2, by rw [← e2]; exact k5, by rw [← e4]; exact g5⟩
theorem l_view {w : Nat → Nat} {e3 e5 e7 : Nat} (hK : zKn D zCl zTys s) (h0 : oArr s (w 0)) (h1 : bArr s (w 1) 100) (h2 : bArr s (w 2) 100) (h3 : sStr s (w 3) e3 1) (h5 : sStr s (w 5) e5 0) (h7 : sStr s (w 7) e7 1) :
    ∃ G : zH, G.1 = s.heap.size ∧ zRel D zCl s.heap.size G s.heap ∧ gWf (0, G) ∧ G.2 (w 0) = some (zQ 1103 0 (fun _ => none)) ∧ mWs w (0, G) := by
  have c0 := h0.cls hK
  have str : ∀ q, q ∈ [w 3, w 5, w 7] → ∃ e n, sStr s q e n ∧ e ∈ [w 1, w 2, e3, e5, e7] := by
    intro q hq
    simp only [List.mem_cons, List.not_mem_nil, or_false] at hq
    rcases hq with rfl | rfl | rfl
    · exact ⟨e3, 1, h3, by simp⟩
    · exact ⟨e5, 0, h5, by simp⟩
    · exact ⟨e7, 1, h7, by simp⟩
  have byt : ∀ q, q ∈ [w 1, w 2, e3, e5, e7] → ∃ n, bArr s q n := by
    intro q hq
    simp only [List.mem_cons, List.not_mem_nil, or_false] at hq
    rcases hq with rfl | rfl | rfl | rfl | rfl
    · exact ⟨100, h1⟩
    · exact ⟨100, h2⟩
    · exact ⟨1, h3.2.2.2⟩
    · exact ⟨0, h5.2.2.2⟩
    · exact ⟨1, h7.2.2.2⟩
  have s0 : ∀ q e n, sStr s q e n → q ≠ w 0 := by
    rintro q e n h rfl
    obtain ⟨c, z1, z2⟩ := h.cls hK
    obtain ⟨c', z3, z4⟩ := c0
    cases z1.symm.trans z3
    exact ne_8_103 hK (z2.symm.trans z4)
  have b0 : ∀ q n, bArr s q n → q ≠ w 0 := by
    rintro q n h rfl
    obtain ⟨c, z1, z2⟩ := h.cls hK
    obtain ⟨c', z3, z4⟩ := c0
    cases z1.symm.trans z3
    exact ne_101_103 hK (z2.symm.trans z4)
  have bs : ∀ q n, bArr s q n → q ∉ [w 3, w 5, w 7] := by
    intro q n h hq
    obtain ⟨e, n', h', -⟩ := str q hq
    obtain ⟨c, z1, z2⟩ := h.cls hK
    obtain ⟨c', z3, z4⟩ := h'.cls hK
    cases z1.symm.trans z3
    exact ne_8_101 hK (z4.symm.trans z2)
  have vs : ∀ q e n, q ∈ [w 3, w 5, w 7] → sStr s q e n → lView s D [w 3, w 5, w 7] [w 1, w 2, e3, e5, e7] (w 0) q = some (.inr (1008, [.ref e, .int 0])) := by
    intro q e n hq h
    obtain ⟨cell, z1, -, -, z2, -⟩ := h.val hK
    unfold lView
    rw [if_neg (s0 q e n h), if_pos hq, z1]
    simp only [Option.bind_some, z2]
  have vb : ∀ q n, q ∈ [w 1, w 2, e3, e5, e7] → bArr s q n → ∃ g : Nat → Int32, lView s D [w 3, w 5, w 7] [w 1, w 2, e3, e5, e7] (w 0) q = some (zI 1101 n g) ∧ zat D zCl q (zI 1101 n g) s.heap ∧ ∀ i, i < n → fits .byte (.int (g i)) = true := by
    intro q n hq h
    obtain ⟨cell, z1, z2, z3, z4, z5, z6⟩ := id h
    obtain ⟨cell', y1, y2⟩ := h.cls hK
    cases z1.symm.trans y1
    have hg : ∀ j, j < n → cell.slots[j]? = some (.int ((fun i => match (s.heap[q]?).bind (fun c => c.slots[i]?) with | some (.int x) => x | _ => 0) j)) := by
      intro j hj
      obtain ⟨x, hx, -⟩ := z6 j hj
      simp only [z1, Option.bind_some, hx]
    have hz : zat D zCl q (zI 1101 n (fun i => match (s.heap[q]?).bind (fun c => c.slots[i]?) with | some (.int x) => x | _ => 0)) s.heap := by
      have y3 : cell.cls = D.1 (1101 % 1000) := y2
      exact ⟨cell, z1, y3, fun h9 => absurd (show 1101 < 1000 from h9) (by decide), z3, z4, slots_i z5 hg⟩
    refine ⟨(fun i => match (s.heap[q]?).bind (fun c => c.slots[i]?) with | some (.int x) => x | _ => 0), ?_, hz, fun j hj => ?_⟩
    · unfold lView
      rw [if_neg (b0 q n h), if_neg (bs q n h), if_pos hq]
      have e9 : (match s.heap[q]? with | some c => c.slots.size | none => 0) = n := by rw [z1]; exact z5
      rw [e9]
    · obtain ⟨x, hx, hf⟩ := z6 j hj
      have := hg j hj
      rw [hx] at this
      rw [← Option.some.inj this]
      exact hf
  have v0 : lView s D [w 3, w 5, w 7] [w 1, w 2, e3, e5, e7] (w 0) (w 0) = some (zQ 1103 0 (fun _ => none)) := by
    unfold lView; rw [if_pos rfl]
  have rel : zRel D zCl s.heap.size (s.heap.size, lView s D [w 3, w 5, w 7] [w 1, w 2, e3, e5, e7] (w 0)) s.heap := by
    refine ⟨rfl, fun q e hq => ?_⟩
    have hq' : lView s D [w 3, w 5, w 7] [w 1, w 2, e3, e5, e7] (w 0) q = some e := hq
    by_cases q0 : q = w 0
    · subst q0
      rw [v0] at hq'
      cases hq'
      obtain ⟨cell, z1, z2, z3, z4, z5⟩ := id h0
      obtain ⟨cell', y1, y2⟩ := c0
      cases z1.symm.trans y1
      exact ⟨fun h => (by cases h), cell, z1, y2, fun h9 => absurd (show 1103 < 1000 from h9) (by decide), z3, z4, slots_0 z5⟩
    · by_cases qs : q ∈ [w 3, w 5, w 7]
      · obtain ⟨e9, n, h, -⟩ := str q qs
        rw [vs q e9 n qs h] at hq'
        cases hq'
        obtain ⟨cell, z1, z2, z3, z4, z5⟩ := h.val hK
        obtain ⟨cell', y1, y2⟩ := h.cls hK
        cases z1.symm.trans y1
        have hr8 : zCl[8]? = some ("java/lang/String", T_ST, 4) := rfl
        refine ⟨fun h => (by cases h), ?_⟩
        show ∃ (r : vw_C) (cell : Cell), zCl[1008 % 1000]? = some r ∧ s.heap[q]? = some cell ∧ cell.cls = D.1 (1008 % 1000) ∧ (1008 < 1000 → cell.vm = .none) ∧ cell.vm ≠ .unknown ∧ cell.vm.isStatics = false ∧ ∀ (k : Nat) (v : Value), k < r.2.2 → ([.ref e9, .int 0] : List Value)[k]? = some v → cell.slots[D.2 (1008 % 1000) k]? = some v
        refine ⟨_, cell, hr8, z1, y2, fun h9 => absurd h9 (by decide), z2, z3, fun k v hk hv => ?_⟩
        match k, hv with
        | 0, hv => cases hv; exact z4
        | 1, hv => cases hv; exact z5
        | k + 2, hv => cases hv
      · by_cases qt : q ∈ [w 1, w 2, e3, e5, e7]
        · obtain ⟨n, h⟩ := byt q qt
          obtain ⟨g, z1, z2, -⟩ := vb q n qt h
          rw [z1] at hq'
          cases hq'
          exact ⟨fun h => (by cases h), z2⟩
        · unfold lView at hq'
          rw [if_neg q0, if_neg qs, if_neg qt] at hq'
          cases hq'
  have ks : ∀ q e n, q ∈ [w 3, w 5, w 7] → e ∈ [w 1, w 2, e3, e5, e7] → sStr s q e n → kStr ((0, (s.heap.size, lView s D [w 3, w 5, w 7] [w 1, w 2, e3, e5, e7] (w 0))) : gH) q n := by
    intro q e n hq he h
    obtain ⟨g, z1, -, z3⟩ := vb e n he h.2.2.2
    exact ⟨1008, e, 1101, [.ref e, .int 0], g, vs q e n hq h, rfl, rfl, rfl, z1, rfl, z3⟩
  obtain ⟨g1, x1, -⟩ := vb (w 1) 100 (by simp) h1
  obtain ⟨g2, x2, -⟩ := vb (w 2) 100 (by simp) h2
  exact ⟨_, rfl, rel, fun q e hq => (rel.2 q e hq).2.lt, v0, ⟨g1, x1⟩, ⟨g2, x2⟩, ks _ _ _ (by simp) (by simp) h3, ks _ _ _ (by simp) (by simp) h5, ks _ _ _ (by simp) (by simp) h7⟩
end LV
end
