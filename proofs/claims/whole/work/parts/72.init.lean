/-! The class's constructor: cells laid one after another. -/
def pPut (b : Nat) (es : List zE) (s : Nat) (g : Nat → Option zE) : gH := (s, (b + es.length, fun q => if b ≤ q ∧ q < b + es.length then es[q - b]? else g q))
section PP
variable {b s : Nat} {es es' : List zE} {g : Nat → Option zE}
theorem pP_at {j : Nat} {e : zE} (h : es[j]? = some e) : (pPut b es s g).2.2 (b + j) = some e := by
  have hj : j < es.length := (List.getElem?_eq_some_iff.mp h).1
  show (if b ≤ b + j ∧ b + j < b + es.length then es[b + j - b]? else g (b + j)) = _
  rw [if_pos ⟨by omega, by omega⟩, Nat.add_sub_cancel_left, h]
theorem pP_up {j : Nat} {e : zE} (hj : j < es.length) : gUp (pPut b es s g) (b + j) e = pPut b (es.set j e) s g := by
  unfold gUp zUp pPut
  dsimp only
  rw [List.length_set]
  congr 2
  funext q
  by_cases hq : q = b + j
  · subst hq
    rw [if_pos rfl, if_pos ⟨by omega, by omega⟩, Nat.add_sub_cancel_left, List.getElem?_set_self hj]
  · rw [if_neg hq]
    by_cases hb : b ≤ q ∧ q < b + es.length
    · rw [if_pos hb, if_pos hb, List.getElem?_set_ne (by omega)]
    · rw [if_neg hb, if_neg hb]
theorem pP_new {n : Nat} {e : zE} : gNew (pPut b es s g) n e = pPut b (es ++ [e]) (s + n) g := by
  unfold gNew zNew pPut
  dsimp only
  rw [List.length_append, List.length_singleton]
  congr 2
  funext q
  by_cases hq : q = b + es.length
  · subst hq
    rw [if_pos rfl, if_pos ⟨by omega, by omega⟩, Nat.add_sub_cancel_left]
    simp
  · rw [if_neg hq]
    by_cases hb : b ≤ q ∧ q < b + es.length
    · rw [if_pos hb, if_pos ⟨by omega, by omega⟩, List.getElem?_append_left (by omega)]
    · rw [if_neg hb, if_neg (by omega)]
theorem putP {j ci i : Nat} {v : Value} {fs : List Value} {k : gH → gR} (h : es[j]? = some (.inr (ci, fs))) (hi : i < fs.length) (he : es.set j (.inr (ci, fs.set i v)) = es') : gPut (pPut b es s g) (b + j) ci i v k = k (pPut b es' s g) := by
  rw [gPut_of (pP_at h) hi, pP_up (List.getElem?_eq_some_iff.mp h).1, he]
theorem newP {ci N : Nat} {fs : List Value} {k : Nat} {K : Nat → gH → gR} (hk : es.length = k) (he : es ++ [.inr (ci, fs)] = es') : gNewO (pPut b es s g) ci N fs K = K (b + k) (pPut b es' (s + N) g) := by
  unfold gNewO
  rw [pP_new, he, ← hk]
  rfl
theorem newN {k n : Nat} {K : Nat → gH → gR} (hk : es.length = k) (hn : n < 100) (he : es ++ [.inr (2, [.ref (b + (k + 1))]), zI 100 n (fun _ => 0)] = es') : (gNewO (pPut b es s g) 2 1 [.null] fun a G2 => bV (f_N_init G2 a (nI n)) fun G4 => K a G4) = K (b + k) (pPut b es' (s + 1 + n) g) := by
  rw [newP (k := k) (es' := es ++ [.inr (2, [.null])]) hk rfl]
  unfold f_N_init
  have e0 : (0 : Int32) ≤ nI n := nI_le (a := 0) (Nat.zero_le n) (by omega)
  have e1 : (nI n).toNatClampNeg = n := nI_clamp (by omega)
  have e2 : ¬ nI n < 0 := Int32.not_lt.mpr e0
  have hk2 : (pPut b (es ++ [.inr (2, [.null])]) (s + 1) g).2.1 = b + (k + 1) := by
    show b + (es ++ [(Sum.inr (2, [Value.null]) : zE)]).length = _
    rw [List.length_append, hk]
    rfl
  rw [if_pos e0]
  unfold gNewA
  rw [if_pos ⟨e2, by rw [e1]; omega⟩, e1, hk2, pP_new]
  dsimp only
  rw [putP (j := k) (fs := [.null]) (es' := es') ?_ (by decide) ?_, bV_rV]
  · rw [List.append_assoc, List.getElem?_append_right (by omega), hk, Nat.sub_self]; rfl
  · rw [List.append_assoc, List.set_append_right _ _ (by omega), hk, Nat.sub_self, ← he]; rfl
theorem writeP {j n x : Nat} {v : Int32} {f : Nat → Int32} (h1 : es[j]? = some (.inr (2, [.ref (b + (j + 1))]))) (h2 : es[j + 1]? = some (zI 100 n f)) (hx : x < n) (hn : n < 100) (he : es.set (j + 1) (zI 100 n (upd f x v)) = es') : f_N_write (pPut b es s g) (b + j) (nI x) v = rV (pPut b es' s g) := by
  unfold f_N_write
  have e0 : ¬ nI x < 0 := Int32.not_lt.mpr (nI_le (a := 0) (Nat.zero_le x) (by omega))
  have e1 : ¬ nI n ≤ nI x := nI_ge hx (by omega)
  rw [if_neg e0, gFA_of (pP_at h1) rfl rfl]
  unfold gLen gAr
  rw [pP_at h2]
  dsimp only
  rw [if_pos rfl, if_neg e1, gFA_of (pP_at h1) rfl rfl]
  unfold gSt gArW
  rw [pP_at h2]
  dsimp only
  rw [if_pos rfl, if_pos (gIn_of e0 e1 (by omega)), nI_clamp (by omega), pP_up (List.getElem?_eq_some_iff.mp h2).1, he]
end PP
theorem I_init {b s : Nat} {g : Nat → Option zE} : f_I_init (pPut b [.inr (3, [.null, .null, .int 0, .int 0, .int 0]), .inr (1, [.null, .null, .null, .null, .null, .null, .int 0])] s g) (b + 1) = f_I_init_L84 (fun G62 => rV G62) zFu (pPut b [.inr (3, [.null, .null, .int 0, .int 0, .int 0]), .inr (1, [.ref (b + 2), .ref (b + 4), .ref (b + 6), .ref (b + 8), .ref (b + 10), .ref (b + 12), .int 0]), .inr (2, [.ref (b + 3)]), zI 100 62 (fun _ => 0), .inr (2, [.ref (b + 5)]), zI 100 6 (fun _ => 0), .inr (2, [.ref (b + 7)]), zI 100 6 (fun _ => 0), .inr (2, [.ref (b + 9)]), zI 100 6 (fun _ => 0), .inr (2, [.ref (b + 11)]), zI 100 6 (fun _ => 0), .inr (2, [.ref (b + 13)]), zI 100 31 (fun _ => 0)] (s + 123) g) (b + 1) (nI 0) := by
  unfold f_I_init
  rw [newN (k := 2) (n := 62) (es' := [.inr (3, [.null, .null, .int 0, .int 0, .int 0]), .inr (1, [.null, .null, .null, .null, .null, .null, .int 0]), .inr (2, [.ref (b + 3)]), zI 100 62 (fun _ => 0)]) rfl (by decide) rfl]
  rw [putP (j := 1) (fs := [.null, .null, .null, .null, .null, .null, .int 0]) (es' := [.inr (3, [.null, .null, .int 0, .int 0, .int 0]), .inr (1, [.ref (b + 2), .null, .null, .null, .null, .null, .int 0]), .inr (2, [.ref (b + 3)]), zI 100 62 (fun _ => 0)]) rfl (Nat.le_of_ble_eq_true rfl) rfl]
  rw [newN (k := 4) (n := 6) (es' := [.inr (3, [.null, .null, .int 0, .int 0, .int 0]), .inr (1, [.ref (b + 2), .null, .null, .null, .null, .null, .int 0]), .inr (2, [.ref (b + 3)]), zI 100 62 (fun _ => 0), .inr (2, [.ref (b + 5)]), zI 100 6 (fun _ => 0)]) rfl (by decide) rfl]
  rw [putP (j := 1) (fs := [.ref (b + 2), .null, .null, .null, .null, .null, .int 0]) (es' := [.inr (3, [.null, .null, .int 0, .int 0, .int 0]), .inr (1, [.ref (b + 2), .ref (b + 4), .null, .null, .null, .null, .int 0]), .inr (2, [.ref (b + 3)]), zI 100 62 (fun _ => 0), .inr (2, [.ref (b + 5)]), zI 100 6 (fun _ => 0)]) rfl (Nat.le_of_ble_eq_true rfl) rfl]
  rw [newN (k := 6) (n := 6) (es' := [.inr (3, [.null, .null, .int 0, .int 0, .int 0]), .inr (1, [.ref (b + 2), .ref (b + 4), .null, .null, .null, .null, .int 0]), .inr (2, [.ref (b + 3)]), zI 100 62 (fun _ => 0), .inr (2, [.ref (b + 5)]), zI 100 6 (fun _ => 0), .inr (2, [.ref (b + 7)]), zI 100 6 (fun _ => 0)]) rfl (by decide) rfl]
  rw [putP (j := 1) (fs := [.ref (b + 2), .ref (b + 4), .null, .null, .null, .null, .int 0]) (es' := [.inr (3, [.null, .null, .int 0, .int 0, .int 0]), .inr (1, [.ref (b + 2), .ref (b + 4), .ref (b + 6), .null, .null, .null, .int 0]), .inr (2, [.ref (b + 3)]), zI 100 62 (fun _ => 0), .inr (2, [.ref (b + 5)]), zI 100 6 (fun _ => 0), .inr (2, [.ref (b + 7)]), zI 100 6 (fun _ => 0)]) rfl (Nat.le_of_ble_eq_true rfl) rfl]
  rw [newN (k := 8) (n := 6) (es' := [.inr (3, [.null, .null, .int 0, .int 0, .int 0]), .inr (1, [.ref (b + 2), .ref (b + 4), .ref (b + 6), .null, .null, .null, .int 0]), .inr (2, [.ref (b + 3)]), zI 100 62 (fun _ => 0), .inr (2, [.ref (b + 5)]), zI 100 6 (fun _ => 0), .inr (2, [.ref (b + 7)]), zI 100 6 (fun _ => 0), .inr (2, [.ref (b + 9)]), zI 100 6 (fun _ => 0)]) rfl (by decide) rfl]
  rw [putP (j := 1) (fs := [.ref (b + 2), .ref (b + 4), .ref (b + 6), .null, .null, .null, .int 0]) (es' := [.inr (3, [.null, .null, .int 0, .int 0, .int 0]), .inr (1, [.ref (b + 2), .ref (b + 4), .ref (b + 6), .ref (b + 8), .null, .null, .int 0]), .inr (2, [.ref (b + 3)]), zI 100 62 (fun _ => 0), .inr (2, [.ref (b + 5)]), zI 100 6 (fun _ => 0), .inr (2, [.ref (b + 7)]), zI 100 6 (fun _ => 0), .inr (2, [.ref (b + 9)]), zI 100 6 (fun _ => 0)]) rfl (Nat.le_of_ble_eq_true rfl) rfl]
  rw [newN (k := 10) (n := 6) (es' := [.inr (3, [.null, .null, .int 0, .int 0, .int 0]), .inr (1, [.ref (b + 2), .ref (b + 4), .ref (b + 6), .ref (b + 8), .null, .null, .int 0]), .inr (2, [.ref (b + 3)]), zI 100 62 (fun _ => 0), .inr (2, [.ref (b + 5)]), zI 100 6 (fun _ => 0), .inr (2, [.ref (b + 7)]), zI 100 6 (fun _ => 0), .inr (2, [.ref (b + 9)]), zI 100 6 (fun _ => 0), .inr (2, [.ref (b + 11)]), zI 100 6 (fun _ => 0)]) rfl (by decide) rfl]
  rw [putP (j := 1) (fs := [.ref (b + 2), .ref (b + 4), .ref (b + 6), .ref (b + 8), .null, .null, .int 0]) (es' := [.inr (3, [.null, .null, .int 0, .int 0, .int 0]), .inr (1, [.ref (b + 2), .ref (b + 4), .ref (b + 6), .ref (b + 8), .ref (b + 10), .null, .int 0]), .inr (2, [.ref (b + 3)]), zI 100 62 (fun _ => 0), .inr (2, [.ref (b + 5)]), zI 100 6 (fun _ => 0), .inr (2, [.ref (b + 7)]), zI 100 6 (fun _ => 0), .inr (2, [.ref (b + 9)]), zI 100 6 (fun _ => 0), .inr (2, [.ref (b + 11)]), zI 100 6 (fun _ => 0)]) rfl (Nat.le_of_ble_eq_true rfl) rfl]
  rw [newN (k := 12) (n := 31) (es' := [.inr (3, [.null, .null, .int 0, .int 0, .int 0]), .inr (1, [.ref (b + 2), .ref (b + 4), .ref (b + 6), .ref (b + 8), .ref (b + 10), .null, .int 0]), .inr (2, [.ref (b + 3)]), zI 100 62 (fun _ => 0), .inr (2, [.ref (b + 5)]), zI 100 6 (fun _ => 0), .inr (2, [.ref (b + 7)]), zI 100 6 (fun _ => 0), .inr (2, [.ref (b + 9)]), zI 100 6 (fun _ => 0), .inr (2, [.ref (b + 11)]), zI 100 6 (fun _ => 0), .inr (2, [.ref (b + 13)]), zI 100 31 (fun _ => 0)]) rfl (by decide) rfl]
  rw [putP (j := 1) (fs := [.ref (b + 2), .ref (b + 4), .ref (b + 6), .ref (b + 8), .ref (b + 10), .null, .int 0]) (es' := [.inr (3, [.null, .null, .int 0, .int 0, .int 0]), .inr (1, [.ref (b + 2), .ref (b + 4), .ref (b + 6), .ref (b + 8), .ref (b + 10), .ref (b + 12), .int 0]), .inr (2, [.ref (b + 3)]), zI 100 62 (fun _ => 0), .inr (2, [.ref (b + 5)]), zI 100 6 (fun _ => 0), .inr (2, [.ref (b + 7)]), zI 100 6 (fun _ => 0), .inr (2, [.ref (b + 9)]), zI 100 6 (fun _ => 0), .inr (2, [.ref (b + 11)]), zI 100 6 (fun _ => 0), .inr (2, [.ref (b + 13)]), zI 100 31 (fun _ => 0)]) rfl (Nat.le_of_ble_eq_true rfl) rfl]
def eI (b : Nat) (f1 f2 f3 : Nat → Int32) : List zE := [.inr (3, [.null, .null, .int 0, .int 0, .int 0]), .inr (1, [.ref (b + 2), .ref (b + 4), .ref (b + 6), .ref (b + 8), .ref (b + 10), .ref (b + 12), .int 0]), .inr (2, [.ref (b + 3)]), zI 100 62 (fun _ => 0), .inr (2, [.ref (b + 5)]), zI 100 6 f1, .inr (2, [.ref (b + 7)]), zI 100 6 f2, .inr (2, [.ref (b + 9)]), zI 100 6 f3, .inr (2, [.ref (b + 11)]), zI 100 6 (fun _ => 0), .inr (2, [.ref (b + 13)]), zI 100 31 (fun _ => 0)]
theorem I_step {b s : Nat} {g : Nat → Option zE} {K : gH → gR} {f1 f2 f3 : Nat → Int32} {i n : Nat} (hi : i < 6) : f_I_init_L84 K (n + 1) (pPut b (eI b f1 f2 f3) s g) (b + 1) (nI i) = f_I_init_L84 K n (pPut b (eI b (upd f1 i (if 2 ≤ i then -1 else nI 0)) (upd f2 i (-1)) (upd f3 i (nI i))) s g) (b + 1) (nI (i + 1)) := by
  have r1 : ∀ (f1 f2 f3 : Nat → Int32) (i j : Nat) (h : (eI b f1 f2 f3)[1]? = some (.inr (1, [.ref (b + 2), .ref (b + 4), .ref (b + 6), .ref (b + 8), .ref (b + 10), .ref (b + 12), .int 0]))), True := fun _ _ _ _ _ _ => trivial
  have h0 : ∀ (f1 f2 f3 : Nat → Int32), (eI b f1 f2 f3)[1]? = some (.inr (1, [.ref (b + 2), .ref (b + 4), .ref (b + 6), .ref (b + 8), .ref (b + 10), .ref (b + 12), .int 0])) := fun _ _ _ => rfl
  have fa1 : ∀ (f1 f2 f3 : Nat → Int32) (k : Nat → gR), gFA (pPut b (eI b f1 f2 f3) s g) (b + 1) 1 1 k = k (b + 4) := fun _ _ _ k => gFA_of (pP_at (h0 _ _ _)) rfl rfl
  have fa2 : ∀ (f1 f2 f3 : Nat → Int32) (k : Nat → gR), gFA (pPut b (eI b f1 f2 f3) s g) (b + 1) 1 2 k = k (b + 6) := fun _ _ _ k => gFA_of (pP_at (h0 _ _ _)) rfl rfl
  have fa3 : ∀ (f1 f2 f3 : Nat → Int32) (k : Nat → gR), gFA (pPut b (eI b f1 f2 f3) s g) (b + 1) 1 3 k = k (b + 8) := fun _ _ _ k => gFA_of (pP_at (h0 _ _ _)) rfl rfl
  have o4 : ∀ (f1 f2 f3 : Nat → Int32) (k : List Value → gR), gOb (pPut b (eI b f1 f2 f3) s g) (b + 4) 2 k = k [.ref (b + 5)] := fun _ _ _ k => gOb_of (pP_at (j := 4) rfl) rfl
  have o6 : ∀ (f1 f2 f3 : Nat → Int32) (k : List Value → gR), gOb (pPut b (eI b f1 f2 f3) s g) (b + 6) 2 k = k [.ref (b + 7)] := fun _ _ _ k => gOb_of (pP_at (j := 6) rfl) rfl
  have o8 : ∀ (f1 f2 f3 : Nat → Int32) (k : List Value → gR), gOb (pPut b (eI b f1 f2 f3) s g) (b + 8) 2 k = k [.ref (b + 9)] := fun _ _ _ k => gOb_of (pP_at (j := 8) rfl) rfl
  have w4 : ∀ (f1 f2 f3 : Nat → Int32) (v : Int32), f_N_write (pPut b (eI b f1 f2 f3) s g) (b + 4) (nI i) v = rV (pPut b (eI b (upd f1 i v) f2 f3) s g) := fun _ _ _ v => writeP (j := 4) (n := 6) rfl rfl hi (by decide) rfl
  have w6 : ∀ (f1 f2 f3 : Nat → Int32) (v : Int32), f_N_write (pPut b (eI b f1 f2 f3) s g) (b + 6) (nI i) v = rV (pPut b (eI b f1 (upd f2 i v) f3) s g) := fun _ _ _ v => writeP (j := 6) (n := 6) rfl rfl hi (by decide) rfl
  have w8 : ∀ (f1 f2 f3 : Nat → Int32) (v : Int32), f_N_write (pPut b (eI b f1 f2 f3) s g) (b + 8) (nI i) v = rV (pPut b (eI b f1 f2 (upd f3 i v)) s g) := fun _ _ _ v => writeP (j := 8) (n := 6) rfl rfl hi (by decide) rfl
  have e6 : ¬ nI 6 ≤ nI i := nI_ge hi (by decide)
  show (if (nI 6) ≤ (nI i) then _ else _) = _
  rw [if_neg e6, fa1]
  by_cases h2 : 2 ≤ i
  · rw [if_pos (nI_le h2 (by omega)), if_pos h2, o4, w4, bV_rV, fa2, o6, w6, bV_rV, fa3, o8, w8, bV_rV, nI_add]
  · rw [if_neg (nI_ge (by omega) (by decide)), if_neg h2, o4, w4, bV_rV, fa2, o6, w6, bV_rV, fa3, o8, w8, bV_rV, nI_add]
theorem I_end {b s : Nat} {g : Nat → Option zE} {K : gH → gR} {f1 f2 f3 : Nat → Int32} {n : Nat} : f_I_init_L84 K (n + 1) (pPut b (eI b f1 f2 f3) s g) (b + 1) (nI 6) = K (pPut b (eI b f1 f2 f3) s g) := by
  show (if (nI 6) ≤ (nI 6) then _ else _) = _
  rw [if_pos (by decide)]
def f1I : Nat → Int32 := upd (upd (upd (upd (upd (upd (fun _ => 0) 0 (nI 0)) 1 (nI 0)) 2 (-1)) 3 (-1)) 4 (-1)) 5 (-1)
def f2I : Nat → Int32 := upd (upd (upd (upd (upd (upd (fun _ => 0) 0 (-1)) 1 (-1)) 2 (-1)) 3 (-1)) 4 (-1)) 5 (-1)
def f3I : Nat → Int32 := upd (upd (upd (upd (upd (upd (fun _ => 0) 0 (nI 0)) 1 (nI 1)) 2 (nI 2)) 3 (nI 3)) 4 (nI 4)) 5 (nI 5)
theorem I_all {b s : Nat} {g : Nat → Option zE} : f_I_init (pPut b [.inr (3, [.null, .null, .int 0, .int 0, .int 0]), .inr (1, [.null, .null, .null, .null, .null, .null, .int 0])] s g) (b + 1) = rV (pPut b (eI b f1I f2I f3I) (s + 123) g) := by
  rw [I_init]
  show f_I_init_L84 _ (5993 + 1 + 1 + 1 + 1 + 1 + 1 + 1) (pPut b (eI b (fun _ => 0) (fun _ => 0) (fun _ => 0)) (s + 123) g) (b + 1) (nI 0) = _
  rw [I_step (i := 0) (by decide), I_step (i := 1) (by decide), I_step (i := 2) (by decide), I_step (i := 3) (by decide), I_step (i := 4) (by decide), I_step (i := 5) (by decide), I_end]
  rfl
theorem U_all {b s : Nat} {g : Nat → Option zE} : f_U_init (pPut b [.inr (3, [.ref (b + 1), .null, .int 0, .int 0, .int 0]), .inr (1, [.ref (b + 2), .ref (b + 4), .ref (b + 6), .ref (b + 8), .ref (b + 10), .ref (b + 12), .int 0]), .inr (2, [.ref (b + 3)]), zI 100 62 (fun _ => 0), .inr (2, [.ref (b + 5)]), zI 100 6 f1I, .inr (2, [.ref (b + 7)]), zI 100 6 f2I, .inr (2, [.ref (b + 9)]), zI 100 6 f3I, .inr (2, [.ref (b + 11)]), zI 100 6 (fun _ => 0), .inr (2, [.ref (b + 13)]), zI 100 31 (fun _ => 0), .inr (0, [.null, .null, .null, .null, .int 0])] s g) (b + 14) = rV (pPut b [.inr (3, [.ref (b + 1), .null, .int 0, .int 0, .int 0]), .inr (1, [.ref (b + 2), .ref (b + 4), .ref (b + 6), .ref (b + 8), .ref (b + 10), .ref (b + 12), .int 0]), .inr (2, [.ref (b + 3)]), zI 100 62 (fun _ => 0), .inr (2, [.ref (b + 5)]), zI 100 6 f1I, .inr (2, [.ref (b + 7)]), zI 100 6 f2I, .inr (2, [.ref (b + 9)]), zI 100 6 f3I, .inr (2, [.ref (b + 11)]), zI 100 6 (fun _ => 0), .inr (2, [.ref (b + 13)]), zI 100 31 (fun _ => 0), .inr (0, [.ref (b + 15), .ref (b + 17), .ref (b + 19), .ref (b + 21), .int 0]), .inr (2, [.ref (b + 16)]), zI 100 3 (fun _ => 0), .inr (2, [.ref (b + 18)]), zI 100 3 (fun _ => 0), .inr (2, [.ref (b + 20)]), zI 100 3 (fun _ => 0), .inr (2, [.ref (b + 22)]), zI 100 3 (fun _ => 0)] (s + 16) g) := by
  unfold f_U_init
  rw [newN (k := 15) (n := 3) (es' := [.inr (3, [.ref (b + 1), .null, .int 0, .int 0, .int 0]), .inr (1, [.ref (b + 2), .ref (b + 4), .ref (b + 6), .ref (b + 8), .ref (b + 10), .ref (b + 12), .int 0]), .inr (2, [.ref (b + 3)]), zI 100 62 (fun _ => 0), .inr (2, [.ref (b + 5)]), zI 100 6 f1I, .inr (2, [.ref (b + 7)]), zI 100 6 f2I, .inr (2, [.ref (b + 9)]), zI 100 6 f3I, .inr (2, [.ref (b + 11)]), zI 100 6 (fun _ => 0), .inr (2, [.ref (b + 13)]), zI 100 31 (fun _ => 0), .inr (0, [.null, .null, .null, .null, .int 0]), .inr (2, [.ref (b + 16)]), zI 100 3 (fun _ => 0)]) rfl (by decide) rfl]
  rw [putP (j := 14) (fs := [.null, .null, .null, .null, .int 0]) (es' := [.inr (3, [.ref (b + 1), .null, .int 0, .int 0, .int 0]), .inr (1, [.ref (b + 2), .ref (b + 4), .ref (b + 6), .ref (b + 8), .ref (b + 10), .ref (b + 12), .int 0]), .inr (2, [.ref (b + 3)]), zI 100 62 (fun _ => 0), .inr (2, [.ref (b + 5)]), zI 100 6 f1I, .inr (2, [.ref (b + 7)]), zI 100 6 f2I, .inr (2, [.ref (b + 9)]), zI 100 6 f3I, .inr (2, [.ref (b + 11)]), zI 100 6 (fun _ => 0), .inr (2, [.ref (b + 13)]), zI 100 31 (fun _ => 0), .inr (0, [.ref (b + 15), .null, .null, .null, .int 0]), .inr (2, [.ref (b + 16)]), zI 100 3 (fun _ => 0)]) rfl (Nat.le_of_ble_eq_true rfl) rfl]
  rw [newN (k := 17) (n := 3) (es' := [.inr (3, [.ref (b + 1), .null, .int 0, .int 0, .int 0]), .inr (1, [.ref (b + 2), .ref (b + 4), .ref (b + 6), .ref (b + 8), .ref (b + 10), .ref (b + 12), .int 0]), .inr (2, [.ref (b + 3)]), zI 100 62 (fun _ => 0), .inr (2, [.ref (b + 5)]), zI 100 6 f1I, .inr (2, [.ref (b + 7)]), zI 100 6 f2I, .inr (2, [.ref (b + 9)]), zI 100 6 f3I, .inr (2, [.ref (b + 11)]), zI 100 6 (fun _ => 0), .inr (2, [.ref (b + 13)]), zI 100 31 (fun _ => 0), .inr (0, [.ref (b + 15), .null, .null, .null, .int 0]), .inr (2, [.ref (b + 16)]), zI 100 3 (fun _ => 0), .inr (2, [.ref (b + 18)]), zI 100 3 (fun _ => 0)]) rfl (by decide) rfl]
  rw [putP (j := 14) (fs := [.ref (b + 15), .null, .null, .null, .int 0]) (es' := [.inr (3, [.ref (b + 1), .null, .int 0, .int 0, .int 0]), .inr (1, [.ref (b + 2), .ref (b + 4), .ref (b + 6), .ref (b + 8), .ref (b + 10), .ref (b + 12), .int 0]), .inr (2, [.ref (b + 3)]), zI 100 62 (fun _ => 0), .inr (2, [.ref (b + 5)]), zI 100 6 f1I, .inr (2, [.ref (b + 7)]), zI 100 6 f2I, .inr (2, [.ref (b + 9)]), zI 100 6 f3I, .inr (2, [.ref (b + 11)]), zI 100 6 (fun _ => 0), .inr (2, [.ref (b + 13)]), zI 100 31 (fun _ => 0), .inr (0, [.ref (b + 15), .ref (b + 17), .null, .null, .int 0]), .inr (2, [.ref (b + 16)]), zI 100 3 (fun _ => 0), .inr (2, [.ref (b + 18)]), zI 100 3 (fun _ => 0)]) rfl (Nat.le_of_ble_eq_true rfl) rfl]
  rw [newN (k := 19) (n := 3) (es' := [.inr (3, [.ref (b + 1), .null, .int 0, .int 0, .int 0]), .inr (1, [.ref (b + 2), .ref (b + 4), .ref (b + 6), .ref (b + 8), .ref (b + 10), .ref (b + 12), .int 0]), .inr (2, [.ref (b + 3)]), zI 100 62 (fun _ => 0), .inr (2, [.ref (b + 5)]), zI 100 6 f1I, .inr (2, [.ref (b + 7)]), zI 100 6 f2I, .inr (2, [.ref (b + 9)]), zI 100 6 f3I, .inr (2, [.ref (b + 11)]), zI 100 6 (fun _ => 0), .inr (2, [.ref (b + 13)]), zI 100 31 (fun _ => 0), .inr (0, [.ref (b + 15), .ref (b + 17), .null, .null, .int 0]), .inr (2, [.ref (b + 16)]), zI 100 3 (fun _ => 0), .inr (2, [.ref (b + 18)]), zI 100 3 (fun _ => 0), .inr (2, [.ref (b + 20)]), zI 100 3 (fun _ => 0)]) rfl (by decide) rfl]
  rw [putP (j := 14) (fs := [.ref (b + 15), .ref (b + 17), .null, .null, .int 0]) (es' := [.inr (3, [.ref (b + 1), .null, .int 0, .int 0, .int 0]), .inr (1, [.ref (b + 2), .ref (b + 4), .ref (b + 6), .ref (b + 8), .ref (b + 10), .ref (b + 12), .int 0]), .inr (2, [.ref (b + 3)]), zI 100 62 (fun _ => 0), .inr (2, [.ref (b + 5)]), zI 100 6 f1I, .inr (2, [.ref (b + 7)]), zI 100 6 f2I, .inr (2, [.ref (b + 9)]), zI 100 6 f3I, .inr (2, [.ref (b + 11)]), zI 100 6 (fun _ => 0), .inr (2, [.ref (b + 13)]), zI 100 31 (fun _ => 0), .inr (0, [.ref (b + 15), .ref (b + 17), .ref (b + 19), .null, .int 0]), .inr (2, [.ref (b + 16)]), zI 100 3 (fun _ => 0), .inr (2, [.ref (b + 18)]), zI 100 3 (fun _ => 0), .inr (2, [.ref (b + 20)]), zI 100 3 (fun _ => 0)]) rfl (Nat.le_of_ble_eq_true rfl) rfl]
  rw [newN (k := 21) (n := 3) (es' := [.inr (3, [.ref (b + 1), .null, .int 0, .int 0, .int 0]), .inr (1, [.ref (b + 2), .ref (b + 4), .ref (b + 6), .ref (b + 8), .ref (b + 10), .ref (b + 12), .int 0]), .inr (2, [.ref (b + 3)]), zI 100 62 (fun _ => 0), .inr (2, [.ref (b + 5)]), zI 100 6 f1I, .inr (2, [.ref (b + 7)]), zI 100 6 f2I, .inr (2, [.ref (b + 9)]), zI 100 6 f3I, .inr (2, [.ref (b + 11)]), zI 100 6 (fun _ => 0), .inr (2, [.ref (b + 13)]), zI 100 31 (fun _ => 0), .inr (0, [.ref (b + 15), .ref (b + 17), .ref (b + 19), .null, .int 0]), .inr (2, [.ref (b + 16)]), zI 100 3 (fun _ => 0), .inr (2, [.ref (b + 18)]), zI 100 3 (fun _ => 0), .inr (2, [.ref (b + 20)]), zI 100 3 (fun _ => 0), .inr (2, [.ref (b + 22)]), zI 100 3 (fun _ => 0)]) rfl (by decide) rfl]
  rw [putP (j := 14) (fs := [.ref (b + 15), .ref (b + 17), .ref (b + 19), .null, .int 0]) (es' := [.inr (3, [.ref (b + 1), .null, .int 0, .int 0, .int 0]), .inr (1, [.ref (b + 2), .ref (b + 4), .ref (b + 6), .ref (b + 8), .ref (b + 10), .ref (b + 12), .int 0]), .inr (2, [.ref (b + 3)]), zI 100 62 (fun _ => 0), .inr (2, [.ref (b + 5)]), zI 100 6 f1I, .inr (2, [.ref (b + 7)]), zI 100 6 f2I, .inr (2, [.ref (b + 9)]), zI 100 6 f3I, .inr (2, [.ref (b + 11)]), zI 100 6 (fun _ => 0), .inr (2, [.ref (b + 13)]), zI 100 31 (fun _ => 0), .inr (0, [.ref (b + 15), .ref (b + 17), .ref (b + 19), .ref (b + 21), .int 0]), .inr (2, [.ref (b + 16)]), zI 100 3 (fun _ => 0), .inr (2, [.ref (b + 18)]), zI 100 3 (fun _ => 0), .inr (2, [.ref (b + 20)]), zI 100 3 (fun _ => 0), .inr (2, [.ref (b + 22)]), zI 100 3 (fun _ => 0)]) rfl (Nat.le_of_ble_eq_true rfl) rfl]
def eXc (b : Nat) : List zE := [.inr (3, [.ref (b + 1), .ref (b + 14), .int 0, .int 0, .int 0]), .inr (1, [.ref (b + 2), .ref (b + 4), .ref (b + 6), .ref (b + 8), .ref (b + 10), .ref (b + 12), .int 0]), .inr (2, [.ref (b + 3)]), zI 100 62 (fun _ => 0), .inr (2, [.ref (b + 5)]), zI 100 6 f1I, .inr (2, [.ref (b + 7)]), zI 100 6 f2I, .inr (2, [.ref (b + 9)]), zI 100 6 f3I, .inr (2, [.ref (b + 11)]), zI 100 6 (fun _ => 0), .inr (2, [.ref (b + 13)]), zI 100 31 (fun _ => 0), .inr (0, [.ref (b + 15), .ref (b + 17), .ref (b + 19), .ref (b + 21), .int 0]), .inr (2, [.ref (b + 16)]), zI 100 3 (fun _ => 0), .inr (2, [.ref (b + 18)]), zI 100 3 (fun _ => 0), .inr (2, [.ref (b + 20)]), zI 100 3 (fun _ => 0), .inr (2, [.ref (b + 22)]), zI 100 3 (fun _ => 0)]
theorem X_all {b s : Nat} {g : Nat → Option zE} : f_X_init (pPut b [.inr (3, [.null, .null, .int 0, .int 0, .int 0])] s g) b = rV (pPut b (eXc b) (s + 7 + 123 + 5 + 16) g) := by
  unfold f_X_init
  have hb : ∀ (es : List zE) (s i : Nat) (v : Value) (k : gH → gR), gPut (pPut b es s g) b 3 i v k = gPut (pPut b es s g) (b + 0) 3 i v k := fun _ _ _ _ _ => rfl
  rw [newP (k := 1) (es' := [.inr (3, [.null, .null, .int 0, .int 0, .int 0]), .inr (1, [.null, .null, .null, .null, .null, .null, .int 0])]) rfl rfl, I_all, bV_rV, hb]
  rw [putP (j := 0) (fs := [.null, .null, .int 0, .int 0, .int 0]) (es' := [.inr (3, [.ref (b + 1), .null, .int 0, .int 0, .int 0]), .inr (1, [.ref (b + 2), .ref (b + 4), .ref (b + 6), .ref (b + 8), .ref (b + 10), .ref (b + 12), .int 0]), .inr (2, [.ref (b + 3)]), zI 100 62 (fun _ => 0), .inr (2, [.ref (b + 5)]), zI 100 6 f1I, .inr (2, [.ref (b + 7)]), zI 100 6 f2I, .inr (2, [.ref (b + 9)]), zI 100 6 f3I, .inr (2, [.ref (b + 11)]), zI 100 6 (fun _ => 0), .inr (2, [.ref (b + 13)]), zI 100 31 (fun _ => 0)]) rfl (by decide) rfl]
  rw [newP (k := 14) (es' := [.inr (3, [.ref (b + 1), .null, .int 0, .int 0, .int 0]), .inr (1, [.ref (b + 2), .ref (b + 4), .ref (b + 6), .ref (b + 8), .ref (b + 10), .ref (b + 12), .int 0]), .inr (2, [.ref (b + 3)]), zI 100 62 (fun _ => 0), .inr (2, [.ref (b + 5)]), zI 100 6 f1I, .inr (2, [.ref (b + 7)]), zI 100 6 f2I, .inr (2, [.ref (b + 9)]), zI 100 6 f3I, .inr (2, [.ref (b + 11)]), zI 100 6 (fun _ => 0), .inr (2, [.ref (b + 13)]), zI 100 31 (fun _ => 0), .inr (0, [.null, .null, .null, .null, .int 0])]) rfl rfl, U_all, bV_rV, hb]
  rw [putP (j := 0) (fs := [.ref (b + 1), .null, .int 0, .int 0, .int 0]) (es' := eXc b) rfl (Nat.le_of_ble_eq_true rfl) rfl]
def sX : cS := (fun k => if k = 1 then f1I else if k = 2 then f2I else if k = 3 then f3I else fun _ => 0, fun _ => 0)
def A0 : mS := (fun _ => [], fun _ => none, fun _ => none, fun _ => 0)
theorem mInv_0 : mInv 0 A0 := by
  refine ⟨⟨fun q x h => (by cases h), fun _ => 0, fun _ => Nat.zero_lt_succ 5, fun q x h => (by cases h)⟩, fun q x h => (by cases h), fun r _ => ⟨Nat.zero_le _, fun t h => absurd h List.not_mem_nil⟩, fun c x h => (by cases h), rfl, (by decide)⟩
theorem CRep_0 : CRep sX A0 := by
  refine ⟨fun r i t _ h => ?_, fun r hr => ?_, fun p h2 h6 => ?_, ⟨fun r hr => ?_, fun p x h => (by cases h)⟩, fun p r s h6 h => ?_, fun c hc => ?_, rfl, rfl, rfl, rfl, rfl⟩
  · exact absurd h (by simp [A0])
  · match r, hr with
    | 0, _ => rfl
    | 1, _ => rfl
  · match p, h2, h6 with
    | 2, _, _ => rfl
    | 3, _, _ => rfl
    | 4, _, _ => rfl
    | 5, _, _ => rfl
  · match r, hr with
    | 0, _ => rfl
    | 1, _ => rfl
  · by_cases hp : p < 2
    · rw [show mRw A0.2.1 zDp p = some (p, 0) from by show (if p < 2 then some (p, 0) else _) = _; rw [if_pos hp]] at h
      cases h
      match p, hp with
      | 0, _ => exact ⟨rfl, rfl⟩
      | 1, _ => exact ⟨rfl, rfl⟩
    · rw [show mRw A0.2.1 zDp p = none from by show (if p < 2 then some (p, 0) else _) = _; rw [if_neg hp]; rfl] at h
      cases h
  · exact (rfl : (0 : Int32) = nI 0)
theorem x_init (G : zH) : ∃ H1 : gH, f_X_init (0, zNew G (.inr (3, [.null, .null, .int 0, .int 0, .int 0]))) G.1 = rV H1 ∧ H1.2.1 = G.1 + 23 ∧ H1.1 = 151 ∧ lCl G.1 sX H1.2 ∧ ∀ q, ¬ (G.1 ≤ q ∧ q < G.1 + 23) → H1.2.2 q = G.2 q := by
  have e : ((0, zNew G (.inr (3, [.null, .null, .int 0, .int 0, .int 0]))) : gH) = pPut G.1 [.inr (3, [.null, .null, .int 0, .int 0, .int 0])] 0 G.2 := by
    unfold zNew pPut
    congr 2
    funext q
    by_cases hq : q = G.1
    · subst hq
      rw [if_pos rfl, if_pos ⟨by omega, by simp⟩, Nat.sub_self]; rfl
    · rw [if_neg hq, if_neg (by simp only [List.length_singleton]; omega)]
  refine ⟨pPut G.1 (eXc G.1) (0 + 7 + 123 + 5 + 16) G.2, by rw [e, X_all], rfl, rfl, fun j hj => ?_, fun q hq => ?_⟩
  · show (if G.1 ≤ G.1 + j ∧ G.1 + j < G.1 + (eXc G.1).length then (eXc G.1)[G.1 + j - G.1]? else _) = _
    rw [if_pos ⟨by omega, by show G.1 + j < G.1 + 23; omega⟩, Nat.add_sub_cancel_left]
    match j, hj with
    | 0, _ => rfl
    | 1, _ => rfl
    | 2, _ => rfl
    | 3, _ => rfl
    | 4, _ => rfl
    | 5, _ => rfl
    | 6, _ => rfl
    | 7, _ => rfl
    | 8, _ => rfl
    | 9, _ => rfl
    | 10, _ => rfl
    | 11, _ => rfl
    | 12, _ => rfl
    | 13, _ => rfl
    | 14, _ => rfl
    | 15, _ => rfl
    | 16, _ => rfl
    | 17, _ => rfl
    | 18, _ => rfl
    | 19, _ => rfl
    | 20, _ => rfl
    | 21, _ => rfl
    | 22, _ => rfl
    | n + 23, h => omega
  · show (if G.1 ≤ q ∧ q < G.1 + (eXc G.1).length then _ else _) = _
    exact if_neg hq
