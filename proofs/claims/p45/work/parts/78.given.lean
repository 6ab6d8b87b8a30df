/-! The premises, paid. -/
def dOnes : List Int32 := [48, 49, 50, 51, 52, 53, 54, 55, 56, 57, 48, 49, 50, 51, 52, 53, 54, 55, 56, 57, 48, 49, 50, 51, 52, 53, 54, 55, 56, 57, 48, 49, 50, 51, 52, 53, 54, 55, 56, 57, 48, 49, 50, 51, 52, 53, 54, 55, 56, 57, 48, 49, 50, 51, 52, 53, 54, 55, 56, 57, 48, 49, 50, 51, 52, 53, 54, 55, 56, 57, 48, 49, 50, 51, 52, 53, 54, 55, 56, 57, 48, 49, 50, 51, 52, 53, 54, 55, 56, 57, 48, 49, 50, 51, 52, 53, 54, 55, 56, 57]
def dTens : List Int32 := [48, 48, 48, 48, 48, 48, 48, 48, 48, 48, 49, 49, 49, 49, 49, 49, 49, 49, 49, 49, 50, 50, 50, 50, 50, 50, 50, 50, 50, 50, 51, 51, 51, 51, 51, 51, 51, 51, 51, 51, 52, 52, 52, 52, 52, 52, 52, 52, 52, 52, 53, 53, 53, 53, 53, 53, 53, 53, 53, 53, 54, 54, 54, 54, 54, 54, 54, 54, 54, 54, 55, 55, 55, 55, 55, 55, 55, 55, 55, 55, 56, 56, 56, 56, 56, 56, 56, 56, 56, 56, 57, 57, 57, 57, 57, 57, 57, 57, 57, 57]
theorem tb1 {i : Nat} {w : Cond} (h : tables_1_1[i]? = some w) : w ∈ lw_tbl := List.mem_append_right _ (tu1 _ (List.mem_of_getElem? h))
theorem tb2 {i : Nat} {w : Cond} (h : tables_1_2[i]? = some w) : w ∈ lw_tbl := List.mem_append_right _ (tu2 _ (List.mem_of_getElem? h))
theorem tb3 {i : Nat} {w : Cond} (h : tables_1_3[i]? = some w) : w ∈ lw_tbl := List.mem_append_right _ (tu3 _ (List.mem_of_getElem? h))
theorem tb4 {i : Nat} {w : Cond} (h : tables_1_4[i]? = some w) : w ∈ lw_tbl := List.mem_append_right _ (tu4 _ (List.mem_of_getElem? h))
theorem tb5 {i : Nat} {w : Cond} (h : tables_1_5[i]? = some w) : w ∈ lw_tbl := List.mem_append_right _ (tu5 _ (List.mem_of_getElem? h))
theorem tb6 {i : Nat} {w : Cond} (h : tables_1_6[i]? = some w) : w ∈ lw_tbl := List.mem_append_right _ (tu6 _ (List.mem_of_getElem? h))
theorem tb7 {i : Nat} {w : Cond} (h : tables_1_7[i]? = some w) : w ∈ lw_tbl := List.mem_append_right _ (tu7 _ (List.mem_of_getElem? h))
theorem tb8 {i : Nat} {w : Cond} (h : tables_1_8[i]? = some w) : w ∈ lw_tbl := List.mem_append_right _ (tu8 _ (List.mem_of_getElem? h))
abbrev F9 : List Cond := flatC (Jvm.Cond.and given_1 narrow_1)
theorem tb {i : Nat} {w : Cond} (h : tables_1[i]? = some w) : w ∈ lw_tbl := List.mem_append_right _ (List.mem_of_getElem? h)
theorem slice_mem {α : Type} {l : List α} {a n : Nat} {f : Nat → α} (h : (l.drop a).take n = (List.range n).map f) {j : Nat} (hj : j < n) : f j ∈ l := by
  have h1 : f j ∈ (l.drop a).take n := by rw [h]; exact List.mem_map.mpr ⟨j, List.mem_range.mpr hj, rfl⟩
  exact List.mem_of_mem_drop (List.mem_of_mem_take h1)
theorem s_ones : (F9.drop 14).take 100 = (List.range 100).map (fun j => Cond.eq (.elem (.static "java/lang/Integer" "DigitOnes" "[B") (.int (Int32.ofNat j))) (.int (dOnes.getD j 0))) := by decide +kernel
theorem s_tens : (F9.drop 117).take 100 = (List.range 100).map (fun j => Cond.eq (.elem (.static "java/lang/Integer" "DigitTens" "[B") (.int (Int32.ofNat j))) (.int (dTens.getD j 0))) := by decide +kernel
theorem f_ones : ∀ j, j < 100 → Cond.eq (.elem (.static "java/lang/Integer" "DigitOnes" "[B") (.int (Int32.ofNat j))) (.int (dOnes.getD j 0)) ∈ F9 := fun j hj => slice_mem s_ones hj
theorem f_tens : ∀ j, j < 100 → Cond.eq (.elem (.static "java/lang/Integer" "DigitTens" "[B") (.int (Int32.ofNat j))) (.int (dTens.getD j 0)) ∈ F9 := fun j hj => slice_mem s_tens hj
theorem n_ones : ∀ j, j < 100 → fits .byte (.int (dOnes.getD j 0)) = true := by decide +kernel
theorem n_tens : ∀ j, j < 100 → fits .byte (.int (dTens.getD j 0)) = true := by decide +kernel
theorem f_ix : ([289, 314, 336, 360, 379, 407, 433, 453, 480, 504, 527, 548, 571, 594, 622, 646, 671, 698, 725, 747, 785, 807, 831, 853] : List Nat).map (fun i => F9[i]?) = zStr.map (fun x => some (Cond.exactly (.string x.1 x.2.1) "java/lang/String")) := by decide +kernel
theorem f_refs : ∀ x ∈ zStr, Cond.exactly (.string x.1 x.2.1) "java/lang/String" ∈ F9 := by
  intro x hx
  have h := List.mem_map_of_mem (f := fun x : String × Nat × String => some (Cond.exactly (.string x.1 x.2.1) "java/lang/String")) hx
  rw [← f_ix] at h
  obtain ⟨i, -, h2⟩ := List.mem_map.mp h
  exact List.mem_of_getElem? h2
theorem t_refs : ∀ x ∈ zStr, Cond.stringRef x.1 x.2.1 x.2.2 ∈ tables_1 := by
  intro x hx
  simp only [zStr, List.mem_cons, List.not_mem_nil, or_false] at hx
  rcases hx with rfl | rfl | rfl | rfl | rfl | rfl | rfl | rfl | rfl | rfl | rfl | rfl | rfl | rfl | rfl | rfl | rfl | rfl | rfl | rfl | rfl | rfl | rfl | rfl
  · exact tu2 _ (List.mem_of_getElem? (i := 174) (by decide +kernel))
  · exact tu2 _ (List.mem_of_getElem? (i := 214) (by decide +kernel))
  · exact tu2 _ (List.mem_of_getElem? (i := 235) (by decide +kernel))
  · exact tu3 _ (List.mem_of_getElem? (i := 67) (by decide +kernel))
  · exact tu3 _ (List.mem_of_getElem? (i := 79) (by decide +kernel))
  · exact tu3 _ (List.mem_of_getElem? (i := 102) (by decide +kernel))
  · exact tu3 _ (List.mem_of_getElem? (i := 156) (by decide +kernel))
  · exact tu3 _ (List.mem_of_getElem? (i := 157) (by decide +kernel))
  · exact tu3 _ (List.mem_of_getElem? (i := 172) (by decide +kernel))
  · exact tu3 _ (List.mem_of_getElem? (i := 173) (by decide +kernel))
  · exact tu3 _ (List.mem_of_getElem? (i := 190) (by decide +kernel))
  · exact tu3 _ (List.mem_of_getElem? (i := 209) (by decide +kernel))
  · exact tu3 _ (List.mem_of_getElem? (i := 233) (by decide +kernel))
  · exact tu4 _ (List.mem_of_getElem? (i := 15) (by decide +kernel))
  · exact tu4 _ (List.mem_of_getElem? (i := 20) (by decide +kernel))
  · exact tu4 _ (List.mem_of_getElem? (i := 36) (by decide +kernel))
  · exact tu4 _ (List.mem_of_getElem? (i := 52) (by decide +kernel))
  · exact tu4 _ (List.mem_of_getElem? (i := 72) (by decide +kernel))
  · exact tu4 _ (List.mem_of_getElem? (i := 127) (by decide +kernel))
  · exact tu4 _ (List.mem_of_getElem? (i := 202) (by decide +kernel))
  · exact tu6 _ (List.mem_of_getElem? (i := 21) (by decide +kernel))
  · exact tu6 _ (List.mem_of_getElem? (i := 29) (by decide +kernel))
  · exact tu6 _ (List.mem_of_getElem? (i := 30) (by decide +kernel))
  · exact tu6 _ (List.mem_of_getElem? (i := 38) (by decide +kernel))
theorem R_of {s : State} {args : Array Value} {own tx : String} {k : Nat} (h1 : (Cond.stringRef own k tx).before args s = true) (h2 : (Cond.exactly (.string own k) "java/lang/String").before args s = true) : ∃ a : Nat, vk_R own k tx a s ∧ (Term.string own k).eval args s none [] s = some (.ref a) := by
  obtain ⟨a, c, cell, kk, q1, -⟩ := Cond.exactly_spec (args := args) (first := s) (o := none) (s := s) (idx := []) (t := .string own k) (cls := "java/lang/String") h2
  exact ⟨a, vk_R.of h1 q1, q1⟩
theorem zT_all {s : State} {args : Array Value} (hts : ∀ w ∈ lw_tbl, w.before args s = true) : ∀ w ∈ zT, w.before args s = true := by
  intro w hw
  have hw' := (List.mem_filter.mp hw).1
  rcases List.mem_append.mp hw' with h | h
  · have h2 := hts _ (tb5 (i := 65) (w := .selects "java/lang/StringBuilder" ⟨"java/lang/AbstractStringBuilder", "isLatin1", "()Z"⟩ ⟨"java/lang/AbstractStringBuilder", "isLatin1", "()Z"⟩) (by decide +kernel))
    unfold zX at h
    simp only [List.mem_cons, List.not_mem_nil, or_false] at h
    rcases h with rfl | rfl | rfl | rfl | rfl | rfl
    · exact zSelP h2 rfl ⟨by decide, by decide⟩ (hts _ (tb5 (i := 198) (by decide +kernel))) (hts _ (tb5 (i := 199) (by decide +kernel)))
    · exact zSelP h2 rfl ⟨by decide, by decide⟩ (hts _ (tb5 (i := 28) (by decide +kernel))) (hts _ (tb5 (i := 29) (by decide +kernel)))
    · exact zSelP h2 rfl ⟨by decide, by decide⟩ (hts _ (tb5 (i := 71) (by decide +kernel))) (hts _ (tb5 (i := 72) (by decide +kernel)))
    · exact zSelP h2 rfl ⟨by decide, by decide⟩ (hts _ (tb5 (i := 218) (by decide +kernel))) (hts _ (tb5 (i := 219) (by decide +kernel)))
    · exact zSelP h2 rfl ⟨by decide, by decide⟩ (hts _ (tb5 (i := 32) (by decide +kernel))) (hts _ (tb5 (i := 33) (by decide +kernel)))
    · exact zSelP h2 rfl ⟨by decide, by decide⟩ (hts _ (tb5 (i := 214) (by decide +kernel))) (hts _ (tb5 (i := 215) (by decide +kernel)))
  · exact hts w h
set_option maxRecDepth 100000 in
theorem l_given {s : State} {b L : Nat} {xs : Nat → Int32} {D : va_G} (hts : ∀ w ∈ lw_tbl, w.before #[Value.ref b] s = true) (hX : va_X b L xs s s.heap) (hb : b < s.heap.size) (hg : (Jvm.Cond.and given_1 narrow_1).before #[Value.ref b] s = true) (hK : zKn D zCl zTys s) :
    ∃ (w : Nat → Nat) (G : zH), lO s.heap.size b L xs w s s.heap ∧ G.1 = s.heap.size ∧ zRel D zCl s.heap.size G s.heap ∧ gWf (0, G) ∧ G.2 (w 0) = some (zQ 1103 0 (fun _ => none)) ∧ mWs w (0, G) := by
  have hs : ∀ c ∈ F9, c.before #[Value.ref b] s = true := flat_of_before _ hg
  have hA : ∀ a : Nat, a < s.heap.size → ¬ (fun q => s.heap.size ≤ q) a := fun a h => Nat.not_le.mpr h
  obtain ⟨w0, c0, v0, hc0, kn0, sz0⟩ := len_x (s := s) (args := #[Value.ref b]) (t := .static "java/util/ArrayList" "DEFAULTCAPACITY_EMPTY_ELEMENTDATA" "[Ljava/lang/Object;") (N := 0) (by decide) (va_eqt (hs (.eq (.length (.static "java/util/ArrayList" "DEFAULTCAPACITY_EMPTY_ELEMENTDATA" "[Ljava/lang/Object;")) (.int (Int32.ofNat 0))) (List.mem_of_getElem? (i := 220) (by decide +kernel))))
  have o0 : oArr s w0 := by
    obtain ⟨a2, c, cA, kA, r1, r2, r3, r4, r5, r6, -⟩ := Cond.exactly_spec (args := #[Value.ref b]) (first := s) (o := none) (s := s) (idx := []) (t := .static "java/util/ArrayList" "DEFAULTCAPACITY_EMPTY_ELEMENTDATA" "[Ljava/lang/Object;") (cls := "[Ljava/lang/Object;") (hs (.exactly (.static "java/util/ArrayList" "DEFAULTCAPACITY_EMPTY_ELEMENTDATA" "[Ljava/lang/Object;") "[Ljava/lang/Object;") (List.mem_of_getElem? (i := 219) (by decide +kernel)))
    cases v0.symm.trans r1
    cases hc0.symm.trans r3
    exact ⟨c0, hc0, by rw [r6]; exact r2, kn0, r5, sz0⟩
  obtain ⟨w1, v1, b1⟩ := bArr_of (s := s) (args := #[Value.ref b]) (t := .static "java/lang/Integer" "DigitOnes" "[B") (N := 100) (tab := dOnes) (by decide) (hs _ (List.mem_of_getElem? (i := 913) (by decide +kernel))) (hs _ (List.mem_of_getElem? (i := 13) (by decide +kernel))) (fun j hj => hs _ (f_ones j hj)) n_ones
  obtain ⟨w2, v2, b2⟩ := bArr_of (s := s) (args := #[Value.ref b]) (t := .static "java/lang/Integer" "DigitTens" "[B") (N := 100) (tab := dTens) (by decide) (hs _ (List.mem_of_getElem? (i := 914) (by decide +kernel))) (hs _ (List.mem_of_getElem? (i := 116) (by decide +kernel))) (fun j hj => hs _ (f_tens j hj)) n_tens
  obtain ⟨w3, ew3, vw3, sw3⟩ := sStr_of (s := s) (args := #[Value.ref b]) (t := .string "PartlisterModel" 265) (N := 1) (tab := [44]) (by decide) (hs _ (List.mem_of_getElem? (i := 902) (by decide +kernel))) (hs _ (List.mem_of_getElem? (i := 903) (by decide +kernel))) (hs _ (List.mem_of_getElem? (i := 944) (by decide +kernel))) (hs _ (List.mem_of_getElem? (i := 905) (by decide +kernel))) (fun j hj => by obtain rfl : j = 0 := (by omega); exact hs _ (List.mem_of_getElem? (i := 906) (by decide +kernel))) (by decide +kernel)
  obtain ⟨w5, ew5, vw5, sw5⟩ := sStr_of (s := s) (args := #[Value.ref b]) (t := .string "PartlisterModel" 263) (N := 0) (tab := []) (by decide) (hs _ (List.mem_of_getElem? (i := 898) (by decide +kernel))) (hs _ (List.mem_of_getElem? (i := 899) (by decide +kernel))) (hs _ (List.mem_of_getElem? (i := 943) (by decide +kernel))) (hs _ (List.mem_of_getElem? (i := 901) (by decide +kernel))) (fun j hj => absurd hj (Nat.not_lt_zero j)) (by decide +kernel)
  obtain ⟨w7, ew7, vw7, sw7⟩ := sStr_of (s := s) (args := #[Value.ref b]) (t := .string "PartlisterModel" 277) (N := 1) (tab := [45]) (by decide) (hs _ (List.mem_of_getElem? (i := 907) (by decide +kernel))) (hs _ (List.mem_of_getElem? (i := 908) (by decide +kernel))) (hs _ (List.mem_of_getElem? (i := 945) (by decide +kernel))) (hs _ (List.mem_of_getElem? (i := 910) (by decide +kernel))) (fun j hj => by obtain rfl : j = 0 := (by omega); exact hs _ (List.mem_of_getElem? (i := 911) (by decide +kernel))) (by decide +kernel)
  obtain ⟨w9, r9, -⟩ := R_of (s := s) (args := #[Value.ref b]) (own := "Partlister") (k := 220) (tx := "-") (hts _ (tb4 (i := 228) (by decide +kernel))) (hs _ (List.mem_of_getElem? (i := 773) (by decide +kernel)))
  obtain ⟨w11, m11⟩ := va_Mi.of (s := s) (args := #[Value.ref b]) (C := "[Ljava/lang/Object;") (hs _ (List.mem_of_getElem? (i := 288) (by decide +kernel)))
  let w : Nat → Nat := fun k => match k with | 0 => w0 | 1 => w1 | 2 => w2 | 3 => w3 | 5 => w5 | 7 => w7 | 9 => w9 | _ => w11
  obtain ⟨G, g1, g2, g3, g4, g5⟩ := l_view (w := w) hK o0 b1 b2 sw3 sw5 sw7
  refine ⟨w, G, ⟨⟨?_, ?_, ?_⟩, ⟨?_, ?_, ?_, ?_, ?_, ?_, ?_, r9, m11⟩, ⟨?_, ?_, ?_⟩, hX, hb⟩, g1, g2, g3, g4, g5⟩
  · exact vx_Zqof (hts _ (tb2 (i := 160) (by decide +kernel))) (hts _ (tb1 (i := 14) (by decide +kernel))) (hs _ (List.mem_of_getElem? (i := 4) (by decide +kernel))) hA
  · exact vx_Zqof (hts _ (tb2 (i := 162) (by decide +kernel))) (hts _ (tb1 (i := 14) (by decide +kernel))) (hs _ (List.mem_of_getElem? (i := 5) (by decide +kernel))) hA
  · intro own k tx hx
    obtain ⟨a, h, -⟩ := R_of (s := s) (args := #[Value.ref b]) (hts _ (List.mem_append_right _ (t_refs (own, k, tx) hx))) (hs _ (f_refs (own, k, tx) hx))
    exact ⟨a, h⟩
  · exact va_Zof (hts _ (tb6 (i := 58) (by decide +kernel))) (hts _ (tb1 (i := 8) (by decide +kernel))) v0 hA
  · exact va_Zof (hts _ (tb5 (i := 129) (by decide +kernel))) (hts _ (tb1 (i := 28) (by decide +kernel))) v1 hA
  · exact va_Zof (hts _ (tb5 (i := 131) (by decide +kernel))) (hts _ (tb1 (i := 28) (by decide +kernel))) v2 hA
  · exact va_Zof (hts _ (tb4 (i := 239) (by decide +kernel))) (hts _ (tb1 (i := 24) (by decide +kernel))) (va_eqt (hs (.eq (.static "java/lang/String" "COMPACT_STRINGS" "Z") (.int (nI 1))) (List.mem_of_getElem? (i := 6) (by decide +kernel)))) hA
  · exact vk_R.of (hts _ (tb8 (i := 123) (by decide +kernel))) vw3
  · exact vk_R.of (hts _ (tb8 (i := 116) (by decide +kernel))) vw5
  · exact vk_R.of (hts _ (tb8 (i := 127) (by decide +kernel))) vw7
  · exact va_Nc.of (hs _ (List.mem_of_getElem? (i := 228) (by decide +kernel)))
  · exact va_Nc.of (hs _ (List.mem_of_getElem? (i := 229) (by decide +kernel)))
  · exact va_Nc.of (hs _ (List.mem_of_getElem? (i := 242) (by decide +kernel)))
