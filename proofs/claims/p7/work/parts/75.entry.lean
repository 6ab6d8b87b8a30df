/-! The law's start. -/
section LE
variable {w : Nat → Nat}
theorem mWs_old {G G' : zH} (h : mWs w (0, G)) (hw : gWf (0, G)) (hB : ∀ q, q < G.1 → G'.2 q = G.2 q) : mWs w (0, G') := by
  obtain ⟨⟨g1, h1⟩, ⟨g2, h2⟩, h3, h5, h7⟩ := h
  have hB' : gB G.1 (0, G) (0, G') := hB
  exact ⟨⟨g1, (hB _ (hw _ _ h1)).trans h1⟩, ⟨g2, (hB _ (hw _ _ h2)).trans h2⟩, h3.gB hw hB', h5.gB hw hB', h7.gB hw hB'⟩
theorem MS_new {G : zH} {e : zE} {o : Nat} {A : mS} {D : mD} (h : MS w o (0, G) A D) : MS w o (0, zNew G e) A D := by
  have hB : ∀ q, q < G.1 → (zNew G e).2 q = G.2 q := fun q hq => zNew_ne _ _ (by omega)
  have hsm : gSm (fun _ => True) (0, G) (0, zNew G e) := fun q z hq _ => (hB q (h.1 q z hq)).trans hq
  obtain ⟨f, hf⟩ := h.2.1
  refine ⟨fun q e' hq => gWf.new (n := 0) h.1 q e' hq, ⟨f, hsm _ _ hf trivial⟩, h.2.2.tr (N := fun _ => True) ?_ hsm (gKeep.new h.1 hB) (hsm _ _ h.2.2.1 trivial) rfl rfl rfl⟩
  exact ⟨⟨fun _ => trivial, fun _ _ _ _ => trivial, fun _ => trivial⟩, ⟨fun _ _ => trivial, fun _ _ => trivial⟩, fun _ => trivial, fun _ => trivial⟩
set_option maxRecDepth 20000 in
theorem law_entry {l : Launch} {D : va_G} {B : Nat} {O : State → Heap → Prop} (hV : zGw l D B O w) (hN : zNo O) {bS Ln : Nat} {xs : Nat → Int32} (hL : Ln ≤ 2048) {G : zH} {f0 : Nat → Option Nat} (hw : gWf (0, G)) (h0 : G.2 (w 0) = some (zQ 1103 0 f0)) (hs : mWs w (0, G)) (hX : zSc O B bS Ln xs) :
    Z (zVm l D B O) m_law 40 lQ lQX 778833 6759604 0 [some (.ref bS), none, none, none, none, none, none] [] G := by
  refine Z.room (fr' := 40) (mc' := (Ln / 4) * 409 + 1 + 20 + 1 + 30 + 1) (ms' := (Ln / 4) * 12846 + 2 + 300 + 9 + 200 + 5) (Nat.le_refl _) (by omega) (by omega) ?_
  refine Z.new (ci := 3) (N := 5) (fs := [.null, .null, .int 0, .int 0, .int 0]) nc_L_8 (by decide) bk_X (by decide +kernel) ?_
  refine Z.blk (pc' := 4) (L' := [some (.ref bS), none, none, none, none, none, none]) (st' := [.ref G.1, .ref G.1]) (sg := [(.dup, 0)]) (by decide +kernel) rfl ?_
  obtain ⟨H1, r1, s1, t1, c1, o1⟩ := x_init G
  obtain ⟨⟨g1, g2⟩, g3⟩ := k_X_init hV.1 (0, zNew G (.inr (3, [.null, .null, .int 0, .int 0, .int 0]))) G.1 _ _ r1
  dsimp only at g1 g2 g3
  have z1 : (zNew G (.inr (3, [.null, .null, .int 0, .int 0, .int 0]))).1 = G.1 + 1 := rfl
  refine Z.room (mc' := (Ln / 4) * 409 + 1 + 20 + 1 + (H1.2.1 - (zNew G (.inr (3, [.null, .null, .int 0, .int 0, .int 0]))).1)) (ms' := (Ln / 4) * 12846 + 2 + 300 + 9 + (H1.1 - 0)) (Nat.le_refl _) (by omega) (by omega) ?_
  refine Z.callI (As := []) (b := G.1) (st := [.ref G.1]) (n := 0) hV.1.1 g3 cb_X_init lk_L_168 in_X_init rfl rfl (by decide +kernel) rfl rfl (Nat.le_of_ble_eq_true rfl) (by decide) (fun E' G' hq => absurd hq.1 (by simp)) (fun v G1 hq => ?_)
  obtain ⟨e1, e2⟩ := hq
  obtain rfl := Sum.inr.inj e1
  subst e2
  have old1 : ∀ q, q < G.1 → H1.2.2 q = G.2 q := fun q hq => o1 q (by omega)
  have hw1 : gWf (0, H1.2) := by
    intro q e hq
    show q < H1.2.1
    by_cases hb : G.1 ≤ q ∧ q < G.1 + 23
    · omega
    · have : H1.2.2 q = some e := hq
      rw [o1 q hb] at this
      have := hw q e this
      have : q < G.1 := this
      omega
  have hs1 : mWs w (0, H1.2) := mWs_old hs hw old1
  have h01 : H1.2.2 (w 0) = some (zQ 1103 0 f0) := (old1 _ (hw _ _ h0)).trans h0
  refine Z.blk (pc' := 8) (L' := [some (.ref bS), some (.ref G.1), none, none, none, none, none]) (st' := []) (sg := [(.astore_n 1, 0)]) (by decide +kernel) rfl ?_
  refine Z.new (ci := 6) (N := 9) (fs := [.int 0, .null, .null, .null, .int 0, .int 0, .int 0, .int 0, .int 0]) nc_L_169 (by decide) bk_M (by decide +kernel) ?_
  refine Z.blk (pc' := 12) (L' := [some (.ref bS), some (.ref G.1), none, none, none, none, none]) (st' := [.ref H1.2.1, .ref H1.2.1]) (sg := [(.dup, 0)]) (by decide +kernel) rfl ?_
  obtain ⟨H2, D2, r2, m2, old2, s2, s3, t2⟩ := m_init hw1 h01
  obtain ⟨⟨g4, g5⟩, g6⟩ := k_M_init hV (0, zNew H1.2 (.inr (6, [.int 0, .null, .null, .null, .int 0, .int 0, .int 0, .int 0, .int 0]))) H1.2.1 _ _ r2
  dsimp only at g4 g5 g6
  have z2 : (zNew H1.2 (.inr (6, [.int 0, .null, .null, .null, .int 0, .int 0, .int 0, .int 0, .int 0]))).1 = H1.2.1 + 1 := rfl
  refine Z.room (mc' := (Ln / 4) * 409 + 1 + (H2.2.1 - (zNew H1.2 (.inr (6, [.int 0, .null, .null, .null, .int 0, .int 0, .int 0, .int 0, .int 0]))).1)) (ms' := (Ln / 4) * 12846 + 2 + (H2.1 - 0)) (Nat.le_refl _) (by omega) (by omega) ?_
  refine Z.callI (As := []) (b := H1.2.1) (st := [.ref H1.2.1]) (n := 0) hV.1.1 g6 cb_M_init lk_L_171 in_M_init rfl rfl (by decide +kernel) rfl rfl (Nat.le_of_ble_eq_true rfl) (by decide) (fun E' G' hq => absurd hq.1 (by simp)) (fun v G1 hq => ?_)
  obtain ⟨e1, e2⟩ := hq
  obtain rfl := Sum.inr.inj e1
  subst e2
  have m2' : MS w H1.2.1 (0, H2.2) A0 D2 := m2
  have hw2 : gWf (0, H2.2) := m2'.1
  have hs2 : mWs w (0, H2.2) := mWs_old hs1 hw1 old2
  refine Z.blk (pc' := 16) (L' := [some (.ref bS), some (.ref G.1), some (.ref H1.2.1), none, none, none, none]) (st' := []) (sg := [(.astore_n 2, 0)]) (by decide +kernel) rfl ?_
  refine Z.new (ci := 7) (N := 2) (fs := [.long 0, .null]) nc_L_14 (by decide) bk_O (by decide +kernel) ?_
  refine Z.blk (pc' := 20) (L' := [some (.ref bS), some (.ref G.1), some (.ref H1.2.1), none, none, none, none]) (st' := [.ref H2.2.1, .ref H2.2.1]) (sg := [(.dup, 0)]) (by decide +kernel) rfl ?_
  obtain ⟨⟨g7, g8⟩, g9⟩ := k_O_init hV.1 (0, zNew H2.2 (.inr (7, [.long 0, .null]))) H2.2.1 _ _ rfl
  dsimp only at g7 g8 g9
  refine Z.room (mc' := (Ln / 4) * 409 + ((zNew H2.2 (.inr (7, [.long 0, .null]))).1 - (zNew H2.2 (.inr (7, [.long 0, .null]))).1)) (ms' := (Ln / 4) * 12846 + (0 - 0)) (Nat.le_refl _) (by omega) (by omega) ?_
  refine Z.callIN (As := []) (b := H2.2.1) (st := [.ref H2.2.1]) (n := 0) hV.1.1 g9 cb_O_init lk_L_172 in_O_init rfl rfl (by decide +kernel) rfl rfl (Nat.le_of_ble_eq_true rfl) (by decide) (fun E' G' hq => absurd hq.1 (by simp)) (fun v G1 hq => ?_)
  obtain ⟨e1, e2⟩ := hq
  obtain rfl := Sum.inr.inj e1
  subst e2
  refine Z.blk (pc' := 27) (L' := [some (.ref bS), some (.ref G.1), some (.ref H1.2.1), some (.ref H2.2.1), some (.int (nI (4 * 0))), none, none]) (st' := []) (sg := [(.astore_n 3, 0), (.iconst 0, nI 0), (.istore 4, 0)]) (by decide +kernel) rfl ?_
  refine law_loop hV hN hL hX (Ln / 4) 0 0 _ (by omega) (Nat.le_refl _) ⟨⟨sX, A0, D2, fun j hj => ?_, CRep_0, mInv_0, MS_new m2'⟩, mWs_old hs2 hw2 (fun q hq => zNew_ne _ _ (by omega)), ⟨_, zNew_at _ _, rfl⟩, lScr.i, by omega⟩
  rw [zNew_ne _ _ (by omega), old2 _ (by omega)]
  exact c1 j hj
end LE
