set_option maxRecDepth 100000 in
theorem l_given {s : State} {b L : Nat} {xs : Nat → Int32} {D : va_G} (hts : ∀ w ∈ lw_tbl, w.before #[Value.ref b] s = true) (hX : va_X b L xs s s.heap) (hb : b < s.heap.size) (hg : (Jvm.Cond.and given_1 narrow_1).before #[Value.ref b] s = true) (hK : zKn D zCl zTys s) :
    ∃ (w : Nat → Nat) (G : zH), lO s.heap.size b L xs w s s.heap ∧ G.1 = s.heap.size ∧ zRel D zCl s.heap.size G s.heap ∧ gWf (0, G) ∧ G.2 (w 0) = some (zQ 1103 0 (fun _ => none)) ∧ mWs w (0, G) := by
  have hs : ∀ c ∈ F9, c.before #[Value.ref b] s = true := flat_of_before _ hg
  have hA : ∀ a : Nat, a < s.heap.size → ¬ (fun q => s.heap.size ≤ q) a := fun a h => Nat.not_le.mpr h
  obtain ⟨w0, c0, v0, hc0, kn0, sz0⟩ := len_x (s := s) (args := #[Value.ref b]) (t := .static "java/util/ArrayList" "DEFAULTCAPACITY_EMPTY_ELEMENTDATA" "[Ljava/lang/Object;") (N := 0) (by decide) (va_eqt (hs (.eq (.length (.static "java/util/ArrayList" "DEFAULTCAPACITY_EMPTY_ELEMENTDATA" "[Ljava/lang/Object;")) (.int (Int32.ofNat 0))) (by decide +kernel)))
  have o0 : oArr s w0 := by
    obtain ⟨a2, c, cA, kA, r1, r2, r3, r4, r5, r6, -⟩ := Cond.exactly_spec (args := #[Value.ref b]) (first := s) (o := none) (s := s) (idx := []) (t := .static "java/util/ArrayList" "DEFAULTCAPACITY_EMPTY_ELEMENTDATA" "[Ljava/lang/Object;") (cls := "[Ljava/lang/Object;") (hs (.exactly (.static "java/util/ArrayList" "DEFAULTCAPACITY_EMPTY_ELEMENTDATA" "[Ljava/lang/Object;") "[Ljava/lang/Object;") (by decide +kernel))
    cases v0.symm.trans r1
    cases hc0.symm.trans r3
    exact ⟨c0, hc0, by rw [r6]; exact r2, kn0, r5, sz0⟩
  obtain ⟨w1, v1, b1⟩ := bArr_of (s := s) (args := #[Value.ref b]) (t := .static "java/lang/Integer" "DigitOnes" "[B") (N := 100) (tab := dOnes) (by decide) (hs _ (by decide +kernel)) (hs _ (by decide +kernel)) (fun j hj => hs _ (f_ones j hj)) n_ones
  obtain ⟨w2, v2, b2⟩ := bArr_of (s := s) (args := #[Value.ref b]) (t := .static "java/lang/Integer" "DigitTens" "[B") (N := 100) (tab := dTens) (by decide) (hs _ (by decide +kernel)) (hs _ (by decide +kernel)) (fun j hj => hs _ (f_tens j hj)) n_tens
  obtain ⟨w3, ew3, vw3, sw3⟩ := sStr_of (s := s) (args := #[Value.ref b]) (t := .string "PartlisterModel" 265) (N := 1) (tab := [44]) (by decide) (hs _ (by decide +kernel)) (hs _ (by decide +kernel)) (hs _ (by decide +kernel)) (hs _ (by decide +kernel)) (fun j hj => hs _ ((by decide +kernel : ∀ j, j < 1 → Cond.eq (.elem (.field (.string "PartlisterModel" 265) "java/lang/String" "value" "[B") (.int (Int32.ofNat j))) (.int (([44] : List Int32).getD j 0)) ∈ F9) j hj)) (by decide +kernel)
  obtain ⟨w5, ew5, vw5, sw5⟩ := sStr_of (s := s) (args := #[Value.ref b]) (t := .string "PartlisterModel" 263) (N := 0) (tab := []) (by decide) (hs _ (by decide +kernel)) (hs _ (by decide +kernel)) (hs _ (by decide +kernel)) (hs _ (by decide +kernel)) (fun j hj => hs _ ((by decide +kernel : ∀ j, j < 0 → Cond.eq (.elem (.field (.string "PartlisterModel" 263) "java/lang/String" "value" "[B") (.int (Int32.ofNat j))) (.int (([] : List Int32).getD j 0)) ∈ F9) j hj)) (by decide +kernel)
  obtain ⟨w7, ew7, vw7, sw7⟩ := sStr_of (s := s) (args := #[Value.ref b]) (t := .string "PartlisterModel" 277) (N := 1) (tab := [45]) (by decide) (hs _ (by decide +kernel)) (hs _ (by decide +kernel)) (hs _ (by decide +kernel)) (hs _ (by decide +kernel)) (fun j hj => hs _ ((by decide +kernel : ∀ j, j < 1 → Cond.eq (.elem (.field (.string "PartlisterModel" 277) "java/lang/String" "value" "[B") (.int (Int32.ofNat j))) (.int (([45] : List Int32).getD j 0)) ∈ F9) j hj)) (by decide +kernel)
  obtain ⟨w9, r9, -⟩ := R_of (s := s) (args := #[Value.ref b]) (own := "Partlister") (k := 220) (tx := "-") (hts _ (tb4 (i := 228) (by decide +kernel))) (hs _ (by decide +kernel))
  obtain ⟨w11, m11⟩ := va_Mi.of (s := s) (args := #[Value.ref b]) (C := "[Ljava/lang/Object;") (hs _ (by decide +kernel))
  let w : Nat → Nat := fun k => match k with | 0 => w0 | 1 => w1 | 2 => w2 | 3 => w3 | 5 => w5 | 7 => w7 | 9 => w9 | _ => w11
  obtain ⟨G, g1, g2, g3, g4, g5⟩ := l_view (w := w) hK o0 b1 b2 sw3 sw5 sw7
  refine ⟨w, G, ⟨⟨?_, ?_, ?_⟩, ⟨?_, ?_, ?_, ?_, ?_, ?_, ?_, r9, m11⟩, ⟨?_, ?_, ?_⟩, hX, hb⟩, g1, g2, g3, g4, g5⟩
  · exact vx_Zqof (hts _ (tb2 (i := 160) (by decide +kernel))) (hts _ (tb1 (i := 14) (by decide +kernel))) (hs _ (by decide +kernel)) hA
  · exact vx_Zqof (hts _ (tb2 (i := 162) (by decide +kernel))) (hts _ (tb1 (i := 14) (by decide +kernel))) (hs _ (by decide +kernel)) hA
  · intro own k tx hx
    obtain ⟨a, h, -⟩ := R_of (s := s) (args := #[Value.ref b]) (hts _ (List.mem_append_right _ (t_refs (own, k, tx) hx))) (hs _ (f_refs (own, k, tx) hx))
    exact ⟨a, h⟩
  · exact va_Zof (hts _ (tb6 (i := 58) (by decide +kernel))) (hts _ (tb1 (i := 8) (by decide +kernel))) v0 hA
  · exact va_Zof (hts _ (tb5 (i := 129) (by decide +kernel))) (hts _ (tb1 (i := 28) (by decide +kernel))) v1 hA
  · exact va_Zof (hts _ (tb5 (i := 131) (by decide +kernel))) (hts _ (tb1 (i := 28) (by decide +kernel))) v2 hA
  · exact va_Zof (hts _ (tb4 (i := 239) (by decide +kernel))) (hts _ (tb1 (i := 24) (by decide +kernel))) (va_eqt (hs (.eq (.static "java/lang/String" "COMPACT_STRINGS" "Z") (.int (nI 1))) (by decide +kernel))) hA
  · exact vk_R.of (hts _ (tb8 (i := 123) (by decide +kernel))) vw3
  · exact vk_R.of (hts _ (tb8 (i := 116) (by decide +kernel))) vw5
  · exact vk_R.of (hts _ (tb8 (i := 127) (by decide +kernel))) vw7
  · exact va_Nc.of (hs _ (by decide +kernel))
  · exact va_Nc.of (hs _ (by decide +kernel))
  · exact va_Nc.of (hs _ (by decide +kernel))
