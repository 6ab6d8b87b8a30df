-- the reference: lists made anew, orders
def mKey2 (t1 m1 : Nat) (t : Nat × Nat × Nat) : Nat × Nat := ((t.2.1 * t1 + m1) % 31, t.2.2)
theorem map_snoc {α β : Type} (f : α → β) (l : List α) (x : α) : (l ++ [x]).map f = l.map f ++ [f x] := by simp
theorem take_snoc {α : Type} {l : List α} {j : Nat} {t : α} (h : l[j]? = some t) : l.take (j + 1) = l.take j ++ [t] := by rw [List.take_succ, h]; rfl
theorem mTh.gB {z : Nat} {G G' : gH} {x : Nat} {t : Nat × Nat} (h : mTh G x t) (hw : gWf G) (hB : gB G.2.1 G G') : mTh G' x t := by
  obtain ⟨g, h1, h2⟩ := h
  exact ⟨g, by rw [hB _ (hw _ _ h1)]; exact h1, h2⟩
theorem isALc.set {w : Nat → Nat} {G : gH} {a e i y cap : Nat} {xs : List Nat} (h : isALc w G a e cap xs) (hi : i < xs.length) (hy : gEl G y) (hae : a ≠ e) : ∃ f, G.2.2 e = some (zQ 103 cap f) ∧ f_AL_set G a (nI i) y = rA xs[i] (gUp G e (zQ 103 cap (va_up f i (some y)))) ∧ isALc w (gUp G e (zQ 103 cap (va_up f i (some y)))) a e cap (xs.set i y) := by
  obtain ⟨cap', f, a1, a2⟩ := al_set (i := i) h.al (List.getElem?_eq_getElem hi) hy
  obtain ⟨m, κ, f', h1, h2, h3, h4, h5, h6, h7⟩ := h
  obtain ⟨rfl, rfl, rfl⟩ := zQ_inj (h2.symm.trans a1)
  refine ⟨f', h2, a2, m, 103, va_up f' i (some y), ?_, gUp_at, Or.inl ⟨rfl, by omega⟩, by simpa using h4, h5, ?_, ?_⟩
  · rw [gUp_ne hae, List.length_set]; exact h1
  · intro j hj
    rw [List.length_set] at hj
    simp only [va_up]
    rw [List.getElem?_set]
    by_cases e1 : j = i
    · rw [if_pos e1, if_pos e1.symm, if_pos (by omega)]
    · rw [if_neg e1, if_neg (fun q => e1 q.symm)]; exact h6 j hj
  · intro j hj z hz
    rw [List.length_set] at hj
    simp only [va_up] at hz
    by_cases e1 : j = i
    · rw [if_pos e1] at hz
      cases hz
      exact hy.upQ h2
    · rw [if_neg e1] at hz
      exact (h7 j hj z hz).upQ h2
/-- the inner way of one thing -/
theorem ins_swap {α : Type} {l : List α} {x y : α} {rest : List α} {g : Nat} (hg : g + 1 ≤ l.length) (hy : l[g]? = some y) :
    (l.insertIdx (g + 1) x ++ rest)[g + 1]? = some x ∧ (l.insertIdx (g + 1) x ++ rest)[g]? = some y ∧ ((l.insertIdx (g + 1) x ++ rest).set (g + 1) y).set g x = l.insertIdx g x ++ rest := by
  obtain ⟨hl, he⟩ := List.getElem?_eq_some_iff.mp hy
  have e0 : l = l.take g ++ y :: l.drop (g + 1) := by
    have := List.take_append_drop g l
    rw [List.drop_eq_getElem_cons hl, he] at this
    exact this.symm
  have e1 : (l.take g).length = g := by rw [List.length_take]; omega
  have e2 : l.insertIdx (g + 1) x = l.take g ++ y :: x :: l.drop (g + 1) := by
    rw [ins_td x l (g + 1) hg, take_snoc hy, List.append_assoc]; rfl
  have e3 : l.insertIdx g x = l.take g ++ x :: y :: l.drop (g + 1) := by
    rw [ins_td x l g (by omega), List.drop_eq_getElem_cons hl, he]
  rw [e2, e3]
  generalize l.take g = Z at e1
  generalize l.drop (g + 1) = Y
  refine ⟨?_, ?_, ?_⟩
  · rw [List.append_assoc, List.getElem?_append_right (by omega), show g + 1 - Z.length = 1 by omega]; rfl
  · rw [List.append_assoc, List.getElem?_append_right (by omega), show g - Z.length = 0 by omega]; rfl
  · rw [List.append_assoc, List.set_append_right _ _ (by omega), show g + 1 - Z.length = 1 by omega, List.set_append_right _ _ (by omega), show g - Z.length = 0 by omega, List.append_assoc]; rfl
section Ref6
variable {w : Nat → Nat} {G : gH} {o : Nat} {A : mS} {D : mD}
theorem sub_lt0 {a c : Nat} (ha : a < 2 ^ 30) (hc : c < 2 ^ 30) : (0 ≤ nI a - nI c) ↔ ¬ a < c := by
  rw [nI_dif, Int32.le_iff_toInt_le, Int32.toInt_ofInt_of_le (by omega) (by omega)]
  show (0 : Int) ≤ _ ↔ _
  omega
theorem m_ahead {ord : Nat} {x y : Nat} {t u : Nat × Nat} (ho : ord < 5) (hx : mTh G x t) (hy : mTh G y u) (ht : t.1 < 31 ∧ t.2 ≤ 1000) (hu : u.1 < 31 ∧ u.2 ≤ 1000) : ∃ v, f_M_ahead G x y (nI ord) = rI v G ∧ (0 ≤ v ↔ sR ord t u = false) := by
  unfold f_M_ahead
  rw [nI_toInt (by omega)]
  rcases (by omega : ord = 0 ∨ ord = 1 ∨ ord = 2 ∨ ord = 3 ∨ ord = 4) with rfl | rfl | rfl | rfl | rfl
  · rw [if_pos (show ((0 : Nat) : Int) = 0 from rfl), hx.key, hy.key]
    exact ⟨_, rfl, by rw [sub_lt0 (by omega) (by omega)]; unfold sR; simp⟩
  · rw [if_neg (by decide), if_pos (show ((1 : Nat) : Int) = 1 from rfl), hy.key, hx.key]
    exact ⟨_, rfl, by rw [sub_lt0 (by omega) (by omega)]; unfold sR; simp⟩
  · rw [if_neg (by decide), if_neg (by decide), if_pos (show ((2 : Nat) : Int) = 2 from rfl), hx.key, gRem_of (by omega) (by omega) (by omega), hy.key, gRem_of (by omega) (by omega) (by omega)]
    exact ⟨_, rfl, by rw [sub_lt0 (by omega) (by omega)]; unfold sR; simp⟩
  · rw [if_neg (by decide), if_neg (by decide), if_neg (by decide), if_pos (show ((3 : Nat) : Int) = 3 from rfl), hy.tag, hx.tag]
    exact ⟨_, rfl, by rw [sub_lt0 (by omega) (by omega)]; unfold sR; simp⟩
  · rw [if_neg (by decide), if_neg (by decide), if_neg (by decide), if_neg (by decide), hx.key, gRem_of (by omega) (by omega) (by omega), hy.key, gRem_of (by omega) (by omega) (by omega)]
    by_cases h : t.1 % 2 = u.1 % 2
    · rw [if_pos (by rw [h]), hx.key, hy.key]
      exact ⟨_, rfl, by rw [sub_lt0 (by omega) (by omega)]; unfold sR; simp [h]⟩
    · rw [if_neg (fun q => h ((nI_eq (by omega) (by omega)).mp q)), hy.key, gRem_of (by omega) (by omega) (by omega), hx.key, gRem_of (by omega) (by omega) (by omega)]
      exact ⟨_, rfl, by rw [sub_lt0 (by omega) (by omega)]; unfold sR; simp [h]⟩
/-- a list of things on one's own: their addresses lie in it, and they are there -/
def mTs (G : gH) (ts : List (Nat × Nat × Nat)) : Prop := ∀ t, t ∈ ts → mTh G t.1 t.2 ∧ t.2.1 < 31 ∧ t.2.2 ≤ 1000
def tR (ord : Nat) (t u : Nat × Nat × Nat) : Bool := sR ord t.2 u.2
theorem mTs.up {ts : List (Nat × Nat × Nat)} {e c n : Nat} {f g : Nat → Option Nat} (h : mTs G ts) (he : G.2.2 e = some (zQ c n f)) : mTs (gUp G e (zQ c n g)) ts := by
  intro t ht
  obtain ⟨⟨gg, h1, h2⟩, h3⟩ := h t ht
  refine ⟨⟨gg, ?_, h2⟩, h3⟩
  rw [gUp_ne, h1]
  intro q
  rw [q, he] at h1
  cases h1
theorem m_ord12 {K : gH → Nat → Int32 → Int32 → gR} {ord a e cap k z : Nat} {x : Nat × Nat × Nat} {done rest : List (Nat × Nat × Nat)} (ho : ord < 5) (hae : a ≠ e) (hk : done.length = k) (hk31 : k + rest.length < 100) (hz : z ≤ e ∨ e = w 0) (hw0 : w 0 < z) : ∀ (g n : Nat) (G : gH), g ≤ k → g < n → gWf G → isALc w G a e cap ((done.insertIdx g x ++ rest).map fun t => t.1) → mTs G (done.insertIdx g x ++ rest) →
    ∃ G', f_M_order_L12 K n G a (nI ord) (nI k) (nI g) = K G' a (nI ord) (nI k) ∧ isALc w G' a e cap ((done.insertIdx (sGap (tR ord) x done g) x ++ rest).map fun t => t.1) ∧ mTs G' (done.insertIdx (sGap (tR ord) x done g) x ++ rest) ∧ gWf G' ∧ G'.2.1 = G.2.1 ∧ G'.1 = G.1 ∧ ∀ q, q ≠ e → G'.2.2 q = G.2.2 q
  | _, 0, _, _, h, _, _, _ => absurd h (Nat.not_lt_zero _)
  | 0, n + 1, G, _, _, hw, hal, hts => by
    refine ⟨G, ?_, hal, hts, hw, rfl, rfl, fun _ _ => rfl⟩
    unfold f_M_order_L12
    rw [if_pos (by decide)]
  | g + 1, n + 1, G, hg, hn, hw, hal, hts => by
    have hgl : g < done.length := by omega
    have hy := List.getElem?_eq_getElem hgl
    generalize done[g] = y at hy
    obtain ⟨s1, s2, s3⟩ := ins_swap (x := x) (rest := rest) (g := g) (by omega) hy
    have hx := hts x (List.mem_of_getElem? s1)
    have hyt := hts y (List.mem_of_getElem? s2)
    have m1 : ((done.insertIdx (g + 1) x ++ rest).map fun t => t.1)[g + 1]? = some x.1 := by rw [List.getElem?_map, s1]; rfl
    have m2 : ((done.insertIdx (g + 1) x ++ rest).map fun t => t.1)[g]? = some y.1 := by rw [List.getElem?_map, s2]; rfl
    have hlen : ((done.insertIdx (g + 1) x ++ rest).map fun t => t.1).length = k + 1 + rest.length := by
      rw [List.length_map, List.length_append, List.length_insertIdx_of_le_length (by omega)]; omega
    obtain ⟨v, v1, v2⟩ := m_ahead (ord := ord) ho hx.1 hyt.1 hx.2 hyt.2
    obtain ⟨m, κ, f, q1, -⟩ := id hal
    have hgap : sGap (tR ord) x done (g + 1) = if sR ord x.2 y.2 = true then sGap (tR ord) x done g else g + 1 := by
      rw [sGap, hy]; rfl
    have e1 : nI (g + 1) - nI 1 = nI g := by rw [nI_sub (by omega)]; rfl
    unfold f_M_order_L12
    rw [if_neg (nI_nle (by omega) (by omega)), gOb_of q1 rfl, al_get hal.al m1, bA_rA, hx.1.cast, gOb_of q1 rfl, e1, al_get hal.al m2, bA_rA, hyt.1.cast, v1, bI_rI]
    by_cases hR : sR ord x.2 y.2 = true
    · rw [if_pos hR] at hgap
      have hv : ¬ 0 ≤ v := fun q => by rw [v2.mp q] at hR; cases hR
      rw [if_neg hv, hgap, gOb_of q1 rfl, al_get hal.al m1, bA_rA, hx.1.cast, gOb_of q1 rfl, al_get hal.al m2, bA_rA, hyt.1.cast]
      obtain ⟨g1, h1, -, -⟩ := hx.1
      obtain ⟨g2, h2, -, -⟩ := hyt.1
      obtain ⟨f1, b1, b2, b3⟩ := hal.set (i := g + 1) (y := y.1) (by omega) (Or.inr ⟨_, _, h2⟩) hae
      have b2' : f_AL_set G a (nI (g + 1)) y.1 = rA x.1 (gUp G e (zQ 103 cap (va_up f1 (g + 1) (some y.1)))) := by
        rw [b2]
        congr 1
        exact (List.getElem?_eq_some_iff.mp m1).2
      have t1 := hts.up (g := va_up f1 (g + 1) (some y.1)) b1
      have hwa := hw.up (a := e) (e := zQ 103 cap (va_up f1 (g + 1) (some y.1))) (hw _ _ b1)
      have x1 : (gUp G e (zQ 103 cap (va_up f1 (g + 1) (some y.1)))).2.2 x.1 = some (zI 100 2 g1) := by
        rw [gUp_ne, h1]
        intro q
        rw [q, b1] at h1
        cases h1
      generalize hG1 : gUp G e (zQ 103 cap (va_up f1 (g + 1) (some y.1))) = G1 at b2' b3 t1 hwa x1
      obtain ⟨f2, c1, c2, c3⟩ := b3.set (i := g) (y := x.1) (by rw [List.length_set]; omega) (Or.inr ⟨_, _, x1⟩) hae
      have t2 := t1.up (g := va_up f2 g (some x.1)) c1
      have hwb := hwa.up (a := e) (e := zQ 103 cap (va_up f2 g (some x.1))) (hwa _ _ c1)
      obtain ⟨m', κ', f', q1', -⟩ := id b3
      generalize hG2 : gUp G1 e (zQ 103 cap (va_up f2 g (some x.1))) = G2 at c2 c3 t2 hwb
      have e3 : (((done.insertIdx (g + 1) x ++ rest).map fun t => t.1).set (g + 1) y.1).set g x.1 = (done.insertIdx g x ++ rest).map fun t => t.1 := by
        rw [← s3, List.map_set, List.map_set]
      rw [e3] at c3
      have t3 : mTs G2 (done.insertIdx g x ++ rest) := by
        rw [← s3]
        intro t ht
        rcases set_mem ht with k1 | k1
        · rcases set_mem k1 with k2 | k2
          · exact t2 t k2
          · rw [k2]; exact t2 y (List.mem_of_getElem? s2)
        · rw [k1]; exact t2 x (List.mem_of_getElem? s1)
      obtain ⟨G', z1, z2, z3, z4, z5, z6, z7⟩ := m_ord12 (K := K) ho hae hk hk31 hz hw0 g n G2 (by omega) (by omega) hwb c3 t3
      refine ⟨G', ?_, z2, z3, z4, ?_, ?_, fun q hq => ?_⟩
      · rw [gOb_of q1 rfl, b2', bA_rA, gOb_of q1' rfl, c2, bA_rA, nI_m1]
        exact z1
      · rw [z5, ← hG2, ← hG1]; rfl
      · rw [z6, ← hG2, ← hG1]; rfl
      · rw [z7 q hq, ← hG2, gUp_ne hq, ← hG1, gUp_ne hq]
    · rw [if_neg hR] at hgap
      have hv : 0 ≤ v := v2.mpr (Bool.eq_false_iff.mpr hR)
      rw [if_pos hv, hgap]
      exact ⟨G, rfl, hal, hts, hw, rfl, rfl, fun _ _ => rfl⟩
theorem m_ord2 {K : gH → gR} {ord a e cap z : Nat} (ho : ord < 5) (hae : a ≠ e) (hz : z ≤ e ∨ e = w 0) (hw0 : w 0 < z) : ∀ (rest : List (Nat × Nat × Nat)) (n : Nat) (G : gH) (done : List (Nat × Nat × Nat)), done.length + rest.length < 100 → rest.length < n → gWf G → isALc w G a e cap ((done ++ rest).map fun t => t.1) → mTs G (done ++ rest) →
    ∃ G', f_M_order_L2 K n G a (nI ord) (nI done.length) = K G' ∧ isALc w G' a e cap ((sSo (tR ord) done rest).map fun t => t.1) ∧ mTs G' (sSo (tR ord) done rest) ∧ gWf G' ∧ G'.2.1 = G.2.1 ∧ G'.1 = G.1 ∧ ∀ q, q ≠ e → G'.2.2 q = G.2.2 q
  | _, 0, _, _, _, h, _, _, _ => absurd h (Nat.not_lt_zero _)
  | [], n + 1, G, done, hl, _, hw, hal, hts => by
    rw [List.append_nil] at hal hts
    refine ⟨G, ?_, hal, hts, hw, rfl, rfl, fun _ _ => rfl⟩
    obtain ⟨m, κ, f, q1, -⟩ := id hal
    unfold f_M_order_L2
    rw [gOb_of q1 rfl, al_size hal.al, bI_rI, List.length_map, if_pos (nI_le (Nat.le_refl _) (by simp at hl; omega))]
  | x :: rest, n + 1, G, done, hl, hn, hw, hal, hts => by
    simp only [List.length_cons] at hl hn
    have e0 : done ++ x :: rest = done.insertIdx done.length x ++ rest := by
      rw [ins_td x done _ (Nat.le_refl _)]; simp
    rw [e0] at hal hts
    have hlen : ((done.insertIdx done.length x ++ rest).map fun t => t.1).length = done.length + 1 + rest.length := by
      rw [List.length_map, List.length_append, List.length_insertIdx_of_le_length (Nat.le_refl _)]
    obtain ⟨m, κ, f, q1, -⟩ := id hal
    obtain ⟨G1, y1, y2, y3, y4, y5, y6, y7⟩ := m_ord12 (K := fun G44 x41 x42 x43 => f_M_order_L2 K n G44 x41 x42 (x43 + nI 1)) (rest := rest) (done := done) (x := x) ho hae rfl (by omega) hz hw0 done.length zFu G (Nat.le_refl _) (by unfold zFu; omega) hw hal hts
    have hins : (done.insertIdx (sGap (tR ord) x done done.length) x).length = done.length + 1 := List.length_insertIdx_of_le_length (sGap_le _) _
    obtain ⟨G', z1, z2, z3, z4, z5, z6, z7⟩ := m_ord2 (K := K) ho hae hz hw0 rest n G1 (done.insertIdx (sGap (tR ord) x done done.length) x) (by omega) (by omega) y4 y2 y3
    refine ⟨G', ?_, z2, z3, z4, by rw [z5, y5], by rw [z6, y6], fun q hq => by rw [z7 q hq, y7 q hq]⟩
    unfold f_M_order_L2
    rw [gOb_of q1 rfl, al_size hal.al, bI_rI, hlen, if_neg (nI_ge (by omega) (by omega)), y1, nI_add, ← hins]
    exact z1
/-- a copy is put in order -/
theorem s_order {ord a e cap z : Nat} {ts : List (Nat × Nat × Nat)} (ho : ord < 5) (hae : a ≠ e) (hz : z ≤ e ∨ e = w 0) (hw0 : w 0 < z) (hl : ts.length < 100) (hw : gWf G) (hal : isALc w G a e cap (ts.map fun t => t.1)) (hts : mTs G ts) :
    ∃ G', f_M_order G a (nI ord) = rV G' ∧ isALc w G' a e cap ((sSo (tR ord) [] ts).map fun t => t.1) ∧ mTs G' (sSo (tR ord) [] ts) ∧ gWf G' ∧ G'.2.1 = G.2.1 ∧ G'.1 = G.1 ∧ ∀ q, q ≠ e → G'.2.2 q = G.2.2 q := by
  unfold f_M_order
  cases ts with
  | nil =>
    refine ⟨G, ?_, hal, hts, hw, rfl, rfl, fun _ _ => rfl⟩
    obtain ⟨m, κ, f, q1, -⟩ := id hal
    unfold zFu f_M_order_L2
    rw [gOb_of q1 rfl, al_size hal.al, bI_rI]
    show (if nI 0 ≤ nI 1 then _ else _) = _
    rw [if_pos (by decide)]
  | cons x rest =>
    have e1 : sSo (tR ord) [] (x :: rest) = sSo (tR ord) [x] rest := rfl
    rw [e1]
    exact m_ord2 (K := fun G46 => rV G46) ho hae hz hw0 rest zFu G [x] (by simp at hl; simp; omega) (by simp at hl; unfold zFu; omega) hw hal hts
end Ref6
