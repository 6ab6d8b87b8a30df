/-! The classes, and the view of the old cells. -/
theorem arr_p {s : State} {args : Array Value} {ty : FieldType} (h : (Cond.arrayClass ty).before args s = true) : ∃ cA : ClassId, ArrOfT s cA ty ∧ s.vm.findClass ("[" ++ ty.toString) = some cA := by
  obtain ⟨c, k, comp, h1, h2, h3⟩ := Cond.arrayClass_spec h
  exact ⟨c, fun N z => ⟨(fun k h => by cases h), k, h2, comp, h3⟩, h1⟩
theorem arr_o {s : State} {args : Array Value} {C : String} (h : (Cond.arrayOver (.object C)).before args s = true) : ∃ cA : ClassId, ArrOfT s cA (.object C) ∧ va_RA s cA (.object C) := by
  obtain ⟨comp, c, k, h1, h2, h3, h4, h5⟩ := Cond.arrayOver_spec h
  exact ⟨c, fun N z => ⟨(fun k h => by cases h), k, h3, comp, h4⟩, k, comp, h3, h4, h1, h5⟩
theorem zK_of {s : State} {args : Array Value} (hts : ∀ w ∈ zT, w.before args s = true) : ∃ D : va_G, zKn D zCl zTys s := by
  obtain ⟨c0, i0, h0⟩ := u_known (C := "Partlister$Cursors") (T := T_U) (N := 5) (n := 5) hts uw_U (hts _ (zU1 83 (by decide +kernel) rfl : Cond.instantiable "Partlister$Cursors" 5 ∈ zT))
  obtain ⟨c1, i1, h1⟩ := u_known (C := "Partlister$Lists") (T := T_I) (N := 7) (n := 7) hts uw_I (hts _ (zU1 40 (by decide +kernel) rfl : Cond.instantiable "Partlister$Lists" 7 ∈ zT))
  obtain ⟨c2, i2, h2⟩ := u_known (C := "Partlister$Numbers") (T := T_N) (N := 1) (n := 1) hts uw_N (hts _ (zU1 46 (by decide +kernel) rfl : Cond.instantiable "Partlister$Numbers" 1 ∈ zT))
  obtain ⟨c3, i3, h3⟩ := u_known (C := "Partlister") (T := T_X) (N := 5) (n := 5) hts uw_X (hts _ (zU1 32 (by decide +kernel) rfl : Cond.instantiable "Partlister" 5 ∈ zT))
  obtain ⟨c4, i4, h4⟩ := u_known (C := "PartlisterModel$Cursor") (T := T_MC) (N := 4) (n := 4) hts uw_MC (hts _ (zU7 197 (by decide +kernel) rfl : Cond.instantiable "PartlisterModel$Cursor" 4 ∈ zT))
  obtain ⟨c5, i5, h5⟩ := u_known (C := "PartlisterModel$Part") (T := T_MP) (N := 3) (n := 3) hts uw_MP (hts _ (zU7 166 (by decide +kernel) rfl : Cond.instantiable "PartlisterModel$Part" 3 ∈ zT))
  obtain ⟨c6, i6, h6⟩ := u_known (C := "PartlisterModel") (T := T_M) (N := 9) (n := 9) hts uw_M (hts _ (zU6 40 (by decide +kernel) rfl : Cond.instantiable "PartlisterModel" 9 ∈ zT))
  obtain ⟨c7, i7, h7⟩ := u_known (C := "PartlisterLaw$Out") (T := T_O) (N := 2) (n := 2) hts uw_O (hts _ (zU2 107 (by decide +kernel) rfl : Cond.instantiable "PartlisterLaw$Out" 2 ∈ zT))
  obtain ⟨c8, i8, h8⟩ := u_known (C := "java/lang/String") (T := T_ST) (N := 4) (n := 4) hts uw_ST (hts _ (zU5 154 (by decide +kernel) rfl : Cond.instantiable "java/lang/String" 4 ∈ zT))
  obtain ⟨c9, i9, h9⟩ := u_known (C := "java/util/ArrayList") (T := T_AL) (N := 3) (n := 3) hts uw_AL (hts _ (zU6 46 (by decide +kernel) rfl : Cond.instantiable "java/util/ArrayList" 3 ∈ zT))
  obtain ⟨c10, i10, h10⟩ := u_known (C := "java/lang/StringBuilder") (T := T_SB) (N := 4) (n := 4) hts uw_SB (hts _ (zU4 230 (by decide +kernel) rfl : Cond.instantiable "java/lang/StringBuilder" 4 ∈ zT))
  obtain ⟨a0, p0, q0⟩ := arr_p (hts _ ac_i)
  obtain ⟨a1, p1, q1⟩ := arr_p (hts _ ac_b)
  obtain ⟨a2, p2, q2⟩ := arr_p (hts _ ac_z)
  obtain ⟨a3, p3, q3⟩ := arr_o (hts _ ao_OJ)
  obtain ⟨a4, p4, q4⟩ := arr_o (hts _ ao_MP)
  obtain ⟨a5, p5, q5⟩ := arr_o (hts _ ao_MC)
  refine ⟨(fun k => match k with | 0 => c0 | 1 => c1 | 2 => c2 | 3 => c3 | 4 => c4 | 5 => c5 | 6 => c6 | 7 => c7 | 8 => c8 | 9 => c9 | 10 => c10 | 100 => a0 | 101 => a1 | 102 => a2 | 103 => a3 | 104 => a4 | _ => a5, fun k => match k with | 0 => i0 | 1 => i1 | 2 => i2 | 3 => i3 | 4 => i4 | 5 => i5 | 6 => i6 | 7 => i7 | 8 => i8 | 9 => i9 | _ => i10), fun c q hq => ?_, fun k q hq => ?_⟩
  · match c, hq with
    | 0, hq => cases hq; exact h0
    | 1, hq => cases hq; exact h1
    | 2, hq => cases hq; exact h2
    | 3, hq => cases hq; exact h3
    | 4, hq => cases hq; exact h4
    | 5, hq => cases hq; exact h5
    | 6, hq => cases hq; exact h6
    | 7, hq => cases hq; exact h7
    | 8, hq => cases hq; exact h8
    | 9, hq => cases hq; exact h9
    | 10, hq => cases hq; exact h10
    | c + 11, hq => cases hq
  · match k, hq with
    | 0, hq => cases hq; exact ⟨p0, q0⟩
    | 1, hq => cases hq; exact ⟨p1, q1⟩
    | 2, hq => cases hq; exact ⟨p2, q2⟩
    | 3, hq => cases hq; exact ⟨p3, q3⟩
    | 4, hq => cases hq; exact ⟨p4, q4⟩
    | 5, hq => cases hq; exact ⟨p5, q5⟩
    | k + 6, hq => cases hq
def lView (s : State) (D : va_G) (S T : List Nat) (w0 : Nat) (q : Nat) : Option zE :=
  if q = w0 then some (zQ 1103 0 (fun _ => none))
  else if q ∈ S then some (.inr (1008, [.ref (match (s.heap[q]?).bind (fun c => c.slots[D.2 8 0]?) with | some (.ref e) => e | _ => 0), .int 0]))
  else if q ∈ T then some (zI 1101 (match s.heap[q]? with | some c => c.slots.size | none => 0) (fun i => match (s.heap[q]?).bind (fun c => c.slots[i]?) with | some (.int x) => x | _ => 0))
  else none
theorem slots_i {cell : Cell} {N : Nat} {f : Nat → Int32} (hs : cell.slots.size = N) (h : ∀ j, j < N → cell.slots[j]? = some (.int (f j))) : cell.slots = (vp_cell 0 (N, .inl f)).slots := by
  refine Array.ext_getElem? fun i => ?_
  by_cases hi : i < N
  · rw [h i hi, vp_cell_i, arrV_read _ _ hi]
  · rw [Array.getElem?_eq_none (by omega), vp_cell_i, Array.getElem?_eq_none (by rw [arrV_size]; omega)]
theorem slots_0 {cell : Cell} {f : Nat → Option Nat} (hs : cell.slots.size = 0) : cell.slots = (vp_cell 0 (0, .inr (.inr (.inr (.inr f))))).slots := by
  refine Array.ext_getElem? fun i => ?_
  rw [Array.getElem?_eq_none (by omega), vp_cell_q, Array.getElem?_eq_none (by rw [arrV_size]; omega)]
/-- the empty array of references -/
def oArr (s : State) (a : Nat) : Prop := ∃ cell : Cell, s.heap[a]? = some cell ∧ s.vm.findClass "[Ljava/lang/Object;" = some cell.cls ∧ cell.vm ≠ .unknown ∧ cell.vm.isStatics = false ∧ cell.slots.size = 0
section LV
variable {s : State} {D : va_G}
theorem cls_8 (hK : zKn D zCl zTys s) : s.vm.findClass "java/lang/String" = some (D.1 8) ∧ ∃ k : Class, s.vm.classes[D.1 8]? = some k ∧ k.kind = .ordinary := (hK.1 8 _ rfl).2
theorem cls_101 (hK : zKn D zCl zTys s) : s.vm.findClass "[B" = some (D.1 101) ∧ ∃ (k : Class) (comp : ClassId), s.vm.classes[D.1 101]? = some k ∧ k.kind = .array comp .byte := by
  obtain ⟨h1, h2⟩ := hK.2 1 (D.1 101, .byte) rfl
  obtain ⟨-, k, hk, comp, hk2⟩ := h1 0 (fun _ => .null)
  exact ⟨h2, k, comp, hk, hk2⟩
theorem cls_103 (hK : zKn D zCl zTys s) : s.vm.findClass "[Ljava/lang/Object;" = some (D.1 103) ∧ ∃ (k : Class) (comp : ClassId), s.vm.classes[D.1 103]? = some k ∧ k.kind = .array comp (.object "java/lang/Object") := by
  obtain ⟨h1, kA, comp9, -, -, -, h2⟩ := hK.2 3 (D.1 103, .object "java/lang/Object") rfl
  obtain ⟨-, k, hk, comp, hk2⟩ := h1 0 (fun _ => .null)
  exact ⟨h2, k, comp, hk, hk2⟩
theorem ne_8_101 (hK : zKn D zCl zTys s) : D.1 8 ≠ D.1 101 := by
  intro e
  obtain ⟨-, k, h1, h2⟩ := cls_8 hK
  obtain ⟨-, k', comp, h3, h4⟩ := cls_101 hK
  rw [e] at h1
  cases h1.symm.trans h3
  rw [h2] at h4; cases h4
theorem ne_8_103 (hK : zKn D zCl zTys s) : D.1 8 ≠ D.1 103 := by
  intro e
  obtain ⟨-, k, h1, h2⟩ := cls_8 hK
  obtain ⟨-, k', comp, h3, h4⟩ := cls_103 hK
  rw [e] at h1
  cases h1.symm.trans h3
  rw [h2] at h4; cases h4
theorem ne_101_103 (hK : zKn D zCl zTys s) : D.1 101 ≠ D.1 103 := by
  intro e
  obtain ⟨-, k, comp9, h1, h2⟩ := cls_101 hK
  obtain ⟨-, k', comp, h3, h4⟩ := cls_103 hK
  rw [e] at h1
  cases h1.symm.trans h3
  rw [h2] at h4; cases h4
theorem bArr.cls {a N : Nat} (hK : zKn D zCl zTys s) (h : bArr s a N) : ∃ cell : Cell, s.heap[a]? = some cell ∧ cell.cls = D.1 101 := by
  obtain ⟨cell, h1, h2, -⟩ := h
  exact ⟨cell, h1, Option.some.inj (h2.symm.trans (cls_101 hK).1)⟩
theorem oArr.cls {a : Nat} (hK : zKn D zCl zTys s) (h : oArr s a) : ∃ cell : Cell, s.heap[a]? = some cell ∧ cell.cls = D.1 103 := by
  obtain ⟨cell, h1, h2, -⟩ := h
  exact ⟨cell, h1, Option.some.inj (h2.symm.trans (cls_103 hK).1)⟩
theorem sStr.cls {a e n : Nat} (hK : zKn D zCl zTys s) (h : sStr s a e n) : ∃ cell : Cell, s.heap[a]? = some cell ∧ cell.cls = D.1 8 := by
  obtain ⟨⟨cell, h1, -, h2, -⟩, -⟩ := h
  exact ⟨cell, h1, Option.some.inj (h2.symm.trans (cls_8 hK).1)⟩
theorem sStr.val {a e n : Nat} (hK : zKn D zCl zTys s) (h : sStr s a e n) : ∃ cell : Cell, s.heap[a]? = some cell ∧ cell.vm ≠ .unknown ∧ cell.vm.isStatics = false ∧ cell.slots[D.2 8 0]? = some (.ref e) ∧ cell.slots[D.2 8 1]? = some (.int 0) := by
  obtain ⟨⟨cell, h1, h2, -, -⟩, ⟨cf, k, i, f, c2, g1, g2, g3, g4, g5, -⟩, ⟨cf', k', i', f', c3, k1, k2, k3, k4, k5, -⟩, -⟩ := h
  cases h1.symm.trans g3
  cases h1.symm.trans k3
  obtain ⟨hS, -⟩ := hK.1 8 _ rfl
  obtain ⟨x1, x2, x3, fd, e1, e2⟩ := hS 0 (by decide)
  obtain ⟨y1, y2, y3, fe, e3, e4⟩ := hS 1 (by decide)
  have a1 : s.fieldFound? "java/lang/String" "value" "[B" = some (x1, x2, x3, fd) := e1
  have a2 : s.fieldFound? "java/lang/String" "coder" "B" = some (y1, y2, y3, fe) := e3
  cases a1.symm.trans k1
  cases a2.symm.trans g1
  exact ⟨cell, h1, g4, h2, by rw [← e2]; exact k5, by rw [← e4]; exact g5⟩
theorem l_view {w : Nat → Nat} {e3 e5 e7 : Nat} (hK : zKn D zCl zTys s) (h0 : oArr s (w 0)) (h1 : bArr s (w 1) 100) (h2 : bArr s (w 2) 100) (h3 : sStr s (w 3) e3 1) (h5 : sStr s (w 5) e5 0) (h7 : sStr s (w 7) e7 1) :
    ∃ G : zH, G.1 = s.heap.size ∧ zRel D zCl s.heap.size G s.heap ∧ gWf (0, G) ∧ G.2 (w 0) = some (zQ 1103 0 (fun _ => none)) ∧ mWs w (0, G) := by
  have c0 := h0.cls hK
  have str : ∀ q, q ∈ [w 3, w 5, w 7] → ∃ e n, sStr s q e n ∧ e ∈ [w 1, w 2, e3, e5, e7] := by
    intro q hq
    simp only [List.mem_cons, List.not_mem_nil, or_false] at hq
    rcases hq with rfl | rfl | rfl
    · exact ⟨e3, 1, h3, by simp⟩
    · exact ⟨e5, 0, h5, by simp⟩
    · exact ⟨e7, 1, h7, by simp⟩
  have byt : ∀ q, q ∈ [w 1, w 2, e3, e5, e7] → ∃ n, bArr s q n := by
    intro q hq
    simp only [List.mem_cons, List.not_mem_nil, or_false] at hq
    rcases hq with rfl | rfl | rfl | rfl | rfl
    · exact ⟨100, h1⟩
    · exact ⟨100, h2⟩
    · exact ⟨1, h3.2.2.2⟩
    · exact ⟨0, h5.2.2.2⟩
    · exact ⟨1, h7.2.2.2⟩
  have s0 : ∀ q e n, sStr s q e n → q ≠ w 0 := by
    rintro q e n h rfl
    obtain ⟨c, z1, z2⟩ := h.cls hK
    obtain ⟨c', z3, z4⟩ := c0
    cases z1.symm.trans z3
    exact ne_8_103 hK (z2.symm.trans z4)
  have b0 : ∀ q n, bArr s q n → q ≠ w 0 := by
    rintro q n h rfl
    obtain ⟨c, z1, z2⟩ := h.cls hK
    obtain ⟨c', z3, z4⟩ := c0
    cases z1.symm.trans z3
    exact ne_101_103 hK (z2.symm.trans z4)
  have bs : ∀ q n, bArr s q n → q ∉ [w 3, w 5, w 7] := by
    intro q n h hq
    obtain ⟨e, n', h', -⟩ := str q hq
    obtain ⟨c, z1, z2⟩ := h.cls hK
    obtain ⟨c', z3, z4⟩ := h'.cls hK
    cases z1.symm.trans z3
    exact ne_8_101 hK (z4.symm.trans z2)
  have vs : ∀ q e n, q ∈ [w 3, w 5, w 7] → sStr s q e n → lView s D [w 3, w 5, w 7] [w 1, w 2, e3, e5, e7] (w 0) q = some (.inr (1008, [.ref e, .int 0])) := by
    intro q e n hq h
    obtain ⟨cell, z1, -, -, z2, -⟩ := h.val hK
    unfold lView
    rw [if_neg (s0 q e n h), if_pos hq, z1]
    simp only [Option.bind_some, z2]
  have vb : ∀ q n, q ∈ [w 1, w 2, e3, e5, e7] → bArr s q n → ∃ g : Nat → Int32, lView s D [w 3, w 5, w 7] [w 1, w 2, e3, e5, e7] (w 0) q = some (zI 1101 n g) ∧ zat D zCl q (zI 1101 n g) s.heap ∧ ∀ i, i < n → fits .byte (.int (g i)) = true := by
    intro q n hq h
    obtain ⟨cell, z1, z2, z3, z4, z5, z6⟩ := id h
    obtain ⟨cell', y1, y2⟩ := h.cls hK
    cases z1.symm.trans y1
    have hg : ∀ j, j < n → cell.slots[j]? = some (.int ((fun i => match (s.heap[q]?).bind (fun c => c.slots[i]?) with | some (.int x) => x | _ => 0) j)) := by
      intro j hj
      obtain ⟨x, hx, -⟩ := z6 j hj
      simp only [z1, Option.bind_some, hx]
    have hz : zat D zCl q (zI 1101 n (fun i => match (s.heap[q]?).bind (fun c => c.slots[i]?) with | some (.int x) => x | _ => 0)) s.heap := by
      have y3 : cell.cls = D.1 (1101 % 1000) := y2
      exact ⟨cell, z1, y3, fun h9 => absurd (show 1101 < 1000 from h9) (by decide), z3, z4, slots_i z5 hg⟩
    refine ⟨(fun i => match (s.heap[q]?).bind (fun c => c.slots[i]?) with | some (.int x) => x | _ => 0), ?_, hz, fun j hj => ?_⟩
    · unfold lView
      rw [if_neg (b0 q n h), if_neg (bs q n h), if_pos hq]
      have e9 : (match s.heap[q]? with | some c => c.slots.size | none => 0) = n := by rw [z1]; exact z5
      rw [e9]
    · obtain ⟨x, hx, hf⟩ := z6 j hj
      have := hg j hj
      rw [hx] at this
      rw [← Option.some.inj this]
      exact hf
  have v0 : lView s D [w 3, w 5, w 7] [w 1, w 2, e3, e5, e7] (w 0) (w 0) = some (zQ 1103 0 (fun _ => none)) := by
    unfold lView; rw [if_pos rfl]
  have rel : zRel D zCl s.heap.size (s.heap.size, lView s D [w 3, w 5, w 7] [w 1, w 2, e3, e5, e7] (w 0)) s.heap := by
    refine ⟨rfl, fun q e hq => ?_⟩
    have hq' : lView s D [w 3, w 5, w 7] [w 1, w 2, e3, e5, e7] (w 0) q = some e := hq
    by_cases q0 : q = w 0
    · subst q0
      rw [v0] at hq'
      cases hq'
      obtain ⟨cell, z1, z2, z3, z4, z5⟩ := id h0
      obtain ⟨cell', y1, y2⟩ := c0
      cases z1.symm.trans y1
      exact ⟨fun h => (by cases h), cell, z1, y2, fun h9 => absurd (show 1103 < 1000 from h9) (by decide), z3, z4, slots_0 z5⟩
    · by_cases qs : q ∈ [w 3, w 5, w 7]
      · obtain ⟨e9, n, h, -⟩ := str q qs
        rw [vs q e9 n qs h] at hq'
        cases hq'
        obtain ⟨cell, z1, z2, z3, z4, z5⟩ := h.val hK
        obtain ⟨cell', y1, y2⟩ := h.cls hK
        cases z1.symm.trans y1
        have hr8 : zCl[8]? = some ("java/lang/String", T_ST, 4) := rfl
        refine ⟨fun h => (by cases h), ?_⟩
        show ∃ (r : vw_C) (cell : Cell), zCl[1008 % 1000]? = some r ∧ s.heap[q]? = some cell ∧ cell.cls = D.1 (1008 % 1000) ∧ (1008 < 1000 → cell.vm = .none) ∧ cell.vm ≠ .unknown ∧ cell.vm.isStatics = false ∧ ∀ (k : Nat) (v : Value), k < r.2.2 → ([.ref e9, .int 0] : List Value)[k]? = some v → cell.slots[D.2 (1008 % 1000) k]? = some v
        refine ⟨_, cell, hr8, z1, y2, fun h9 => absurd h9 (by decide), z2, z3, fun k v hk hv => ?_⟩
        match k, hv with
        | 0, hv => cases hv; exact z4
        | 1, hv => cases hv; exact z5
        | k + 2, hv => cases hv
      · by_cases qt : q ∈ [w 1, w 2, e3, e5, e7]
        · obtain ⟨n, h⟩ := byt q qt
          obtain ⟨g, z1, z2, -⟩ := vb q n qt h
          rw [z1] at hq'
          cases hq'
          exact ⟨fun h => (by cases h), z2⟩
        · unfold lView at hq'
          rw [if_neg q0, if_neg qs, if_neg qt] at hq'
          cases hq'
  have ks : ∀ q e n, q ∈ [w 3, w 5, w 7] → e ∈ [w 1, w 2, e3, e5, e7] → sStr s q e n → kStr ((0, (s.heap.size, lView s D [w 3, w 5, w 7] [w 1, w 2, e3, e5, e7] (w 0))) : gH) q n := by
    intro q e n hq he h
    obtain ⟨g, z1, -, z3⟩ := vb e n he h.2.2.2
    exact ⟨1008, e, 1101, [.ref e, .int 0], g, vs q e n hq h, rfl, rfl, rfl, z1, rfl, z3⟩
  obtain ⟨g1, x1, -⟩ := vb (w 1) 100 (by simp) h1
  obtain ⟨g2, x2, -⟩ := vb (w 2) 100 (by simp) h2
  exact ⟨_, rfl, rel, fun q e hq => (rel.2 q e hq).2.lt, v0, ⟨g1, x1⟩, ⟨g2, x2⟩, ks _ _ _ (by simp) (by simp) h3, ks _ _ _ (by simp) (by simp) h5, ks _ _ _ (by simp) (by simp) h7⟩
end LV
