-- a StringBuilder of one's own
section Sb
def sbT (G0 : gH) (cap : Nat) (G : gH) : Prop := ∃ c s, G.2.1 = G0.2.1 + c ∧ G.1 = G0.1 + s ∧ ((cap = 16 ∧ c = 2 ∧ s = 20) ∨ (cap = 34 ∧ c = 3 ∧ s = 54) ∨ (cap = 70 ∧ c = 4 ∧ s = 124) ∨ (cap = 142 ∧ c = 5 ∧ s = 266) ∨ (cap = 286 ∧ c = 6 ∧ s = 552))
/-- a builder of n signs at a, its bytes at e, beside all that was there in G0 -/
def isSB (G0 : gH) (a e cap n : Nat) (G : gH) : Prop := gB G0.2.1 G0 G ∧ gWf G ∧ G0.2.1 ≤ a ∧ G0.2.1 ≤ e ∧ a ≠ e ∧ (∃ v2, G.2.2 a = some (.inr (10, [.ref e, .int 0, .int v2, .int (nI n)]))) ∧ (∃ g, G.2.2 e = some (zI 101 cap g) ∧ ∀ i, i < cap → fits .byte (.int (g i)) = true) ∧ n ≤ cap ∧ sbT G0 cap G
/-- a text of n signs -/
def kStr (G : gH) (q n : Nat) : Prop := ∃ (c e c2 : Nat) (fs : List Value) (g : Nat → Int32), G.2.2 q = some (.inr (c, fs)) ∧ c % 1000 = 8 ∧ fs[0]? = some (.ref e) ∧ fs[1]? = some (.int 0) ∧ G.2.2 e = some (zI c2 n g) ∧ c2 % 1000 = 101 ∧ ∀ i, i < n → fits .byte (.int (g i)) = true
variable {G0 G : gH} {a e cap n : Nat} {w : Nat → Nat}
theorem sbT.le (h : sbT G0 cap G) : cap ≤ 286 ∧ 16 ≤ cap := by
  obtain ⟨c, s, -, -, h⟩ := h
  omega
theorem dv_all : ∀ k : Nat, k < 1000 → -(nI k) / nI 100 = -(nI (k / 100)) ∧ -(nI (k / 100)) * nI 100 - -(nI k) = nI (k % 100) := by decide +kernel
theorem fits0 : fits .byte (.int 0) = true := by decide
theorem rN0 {G : gH} : rN .byte 0 G = rI 0 G := by
  unfold rN
  rw [if_pos (show narrow FieldType.byte (Value.int 0) = Value.int 0 from congrArg Value.int (by decide : (0 : Int32).toInt8.toInt32 = 0))]; rfl
theorem kStr.coder {q : Nat} (h : kStr G q n) : f_ST_coder w G q = rI 0 G := by
  obtain ⟨c, e, c2, fs, g, h1, h2, h3, h4, -⟩ := h
  unfold f_ST_coder
  rw [if_neg (by decide), gFI_of h1 h2 h4, rN0]
theorem kStr.len {q : Nat} (h : kStr G q n) : f_ST_length w G q = rI (nI n) G := by
  have hc := h.coder (w := w)
  obtain ⟨c, e, c2, fs, g, h1, h2, h3, h4, h5, h6, h7⟩ := h
  unfold f_ST_length
  rw [gFA_of h1 h2 h3, gLenK_of h5 h6, gOb_of h1 h2, hc, bI_rI, sh0r]
theorem kStr.gB {q : Nat} (h : kStr G0 q n) (hw : gWf G0) (hB : gB G0.2.1 G0 G) : kStr G q n := by
  obtain ⟨c, e, c2, fs, g, h1, h2, h3, h4, h5, h6, h7⟩ := h
  exact ⟨c, e, c2, fs, g, (hB _ (hw _ _ h1)).trans h1, h2, h3, h4, (hB _ (hw _ _ h5)).trans h5, h6, h7⟩
theorem sb_new (hw : gWf G0) : ∃ G1, (∀ K : Nat → gH → gR, (gNewO G0 10 4 [.null, .int 0, .int 0, .int 0] fun q1 G2 => bV (f_SB_init w G2 q1) fun G4 => K q1 G4) = K G0.2.1 G1) ∧ isSB G0 G0.2.1 (G0.2.1 + 1) 16 0 G1 := by
  have c0 : ∀ z, z < G0.2.1 → (gNew G0 4 (.inr (10, [.null, .int 0, .int 0, .int 0]))).2.2 z = G0.2.2 z := fun z hz => gNew_ne (by omega)
  have n0 : (gNew G0 4 (.inr (10, [.null, .int 0, .int 0, .int 0]))).2.2 G0.2.1 = some (.inr (10, [.null, .int 0, .int 0, .int 0])) := gNew_at
  have w0 : gWf (gNew G0 4 (.inr (10, [.null, .int 0, .int 0, .int 0]))) := hw.new
  have s0 : (gNew G0 4 (.inr (10, [.null, .int 0, .int 0, .int 0]))).2.1 = G0.2.1 + 1 ∧ (gNew G0 4 (.inr (10, [.null, .int 0, .int 0, .int 0]))).1 = G0.1 + 4 := ⟨rfl, rfl⟩
  generalize hG1 : gNew G0 4 (.inr (10, [.null, .int 0, .int 0, .int 0])) = G1 at c0 n0 w0 s0
  have c1 : ∀ z, z < G0.2.1 → (gNew G1 16 (zI 101 16 (fun _ => 0))).2.2 z = G0.2.2 z := fun z hz => by rw [gNew_ne (by omega)]; exact c0 z hz
  have n1 : (gNew G1 16 (zI 101 16 (fun _ => 0))).2.2 G0.2.1 = some (.inr (10, [.null, .int 0, .int 0, .int 0])) := by rw [gNew_ne (by omega)]; exact n0
  have a1 : (gNew G1 16 (zI 101 16 (fun _ => 0))).2.2 (G0.2.1 + 1) = some (zI 101 16 (fun _ => 0)) := by rw [← s0.1]; exact gNew_at
  have w1 : gWf (gNew G1 16 (zI 101 16 (fun _ => 0))) := w0.new
  have s1 : (gNew G1 16 (zI 101 16 (fun _ => 0))).2.1 = G0.2.1 + 2 ∧ (gNew G1 16 (zI 101 16 (fun _ => 0))).1 = G0.1 + 20 := ⟨by show G1.2.1 + 1 = _; omega, by show G1.1 + 16 = _; omega⟩
  have e1 : ∀ k : Nat → gH → gR, gNewA G1 101 (nI 16) k = k (G0.2.1 + 1) (gNew G1 16 (zI 101 16 (fun _ => 0))) := fun k => by rw [gNewB_of (by omega), s0.1]
  generalize gNew G1 16 (zI 101 16 (fun _ => 0)) = G2 at c1 n1 a1 w1 s1 e1
  refine ⟨gUp (gUp G2 G0.2.1 (.inr (10, [.ref (G0.2.1 + 1), .int 0, .int 0, .int 0]))) G0.2.1 (.inr (10, [.ref (G0.2.1 + 1), .int 0, .int 0, .int 0])), fun K => ?_, fun z hz => ?_, ?_, Nat.le_refl _, by omega, by omega, ⟨0, ?_⟩, ⟨fun _ => 0, ?_, fun _ _ => fits0⟩, by omega, ⟨2, 20, s1.1, s1.2, Or.inl ⟨rfl, rfl, rfl⟩⟩⟩
  · unfold gNewO f_SB_init f_AB_init
    dsimp only
    rw [hG1, if_neg (by decide), e1, gPut_of n1 (show 0 < 4 by decide)]
    rw [show ([.null, .int 0, .int 0, .int 0] : List Value).set 0 (.ref (G0.2.1 + 1)) = [.ref (G0.2.1 + 1), .int 0, .int 0, .int 0] from rfl, gPut_of gUp_at (show 1 < 4 by decide), bV_rV, bV_rV]
    rfl
  · rw [gUp_ne (by omega), gUp_ne (by omega)]; exact c1 z hz
  · refine gWf.up (w1.up ?_) ?_ <;> (show G0.2.1 < G2.2.1; omega)
  · exact gUp_at
  · rw [gUp_ne (by omega), gUp_ne (by omega)]; exact a1
theorem dif_le0 {x y : Nat} (hx : x < 2 ^ 20) (hy : y < 2 ^ 20) : (nI x - nI y ≤ 0) ↔ x ≤ y := by
  rw [nI_dif, Int32.le_iff_toInt_le, Int32.toInt_ofInt_of_le (by omega) (by omega)]
  show _ ≤ (0 : Int) ↔ _
  omega
/-- the field that counts, and a byte -/
theorem isSB.cnt (h : isSB G0 a e cap n G) {m : Nat} (hm : m ≤ cap) : ∃ G', (∀ k : gH → gR, gPut G a 10 3 (.int (nI m)) k = k G') ∧ isSB G0 a e cap m G' := by
  obtain ⟨h1, h2, h3, h4, h5, ⟨v2, h6⟩, ⟨g, h7, h7b⟩, h8, h9⟩ := h
  refine ⟨gUp G a (.inr (10, [.ref e, .int 0, .int v2, .int (nI m)])), fun k => gPut_of h6 (show 3 < 4 by decide), fun z hz => by rw [gUp_ne (by omega)]; exact h1 z hz, h2.up (h2 _ _ h6), h3, h4, h5, ⟨v2, gUp_at⟩, ⟨g, by rw [gUp_ne (fun q => h5 q.symm)]; exact h7, h7b⟩, hm, h9⟩
theorem isSB.byt (h : isSB G0 a e cap n G) {i : Nat} (hi : i < cap) (v : Int32) : ∃ G', (∀ k : gH → gR, gSt G e 101 (nI i) (vp_nar .byte v) k = k G') ∧ isSB G0 a e cap n G' := by
  have hcap := h.2.2.2.2.2.2.2.2.le
  obtain ⟨h1, h2, h3, h4, h5, ⟨v2, h6⟩, ⟨g, h7, h7b⟩, h8, h9⟩ := h
  refine ⟨gUp G e (zI 101 cap (upd g i (vp_nar .byte v))), fun k => gStK_of h7 hi (by omega), fun z hz => by rw [gUp_ne (by omega)]; exact h1 z hz, h2.up (h2 _ _ h7), h3, h4, h5, ⟨v2, by rw [gUp_ne h5]; exact h6⟩, ⟨_, gUp_at, fun j hj => ?_⟩, h8, h9⟩
  by_cases q : j = i
  · rw [q, upd_at]; exact fits_b v
  · rw [upd_ne q]; exact h7b j hj
theorem isSB.fld (h : isSB G0 a e cap n G) : (∀ k : Nat → gR, gFA G a 10 0 k = k e) ∧ (∀ k : Int32 → gR, gFI G a 10 1 k = k 0) ∧ (∀ k : Int32 → gR, gFI G a 10 3 k = k (nI n)) ∧ (∃ fs, ∀ k : List Value → gR, gOb G a 10 k = k fs) ∧ (∀ k : Int32 → gR, gLen G e 101 k = k (nI cap)) := by
  obtain ⟨h1, h2, h3, h4, h5, ⟨v2, h6⟩, ⟨g, h7, h7b⟩, h8, h9⟩ := h
  exact ⟨fun k => gFA_of h6 rfl rfl, fun k => gFI_of h6 rfl rfl, fun k => gFI_of h6 rfl rfl, ⟨_, fun k => gOb_of h6 rfl⟩, fun k => gLenK_of h7 rfl⟩
theorem sb_ens {k : Nat} (h : isSB G0 a e cap n G) (hk : k ≤ 3) (hn : n + k ≤ 280) : ∃ (e' cap' : Nat) (G' : gH), f_AB_ensureCapacityInternal G a (nI (n + k)) = rV G' ∧ isSB G0 a e' cap' n G' ∧ n + k ≤ cap' := by
  obtain ⟨fa, fc, -, ⟨fs, fo⟩, fl⟩ := h.fld
  have hcap := h.2.2.2.2.2.2.2.2.le
  unfold f_AB_ensureCapacityInternal
  rw [fa, fl, fc, sh0r]
  by_cases hle : n + k ≤ cap
  · exact ⟨e, cap, G, by rw [if_pos ((dif_le0 (by omega) (by omega)).mpr hle)], h, hle⟩
  · obtain ⟨h1, h2, h3, h4, h5, ⟨v2, h6⟩, ⟨g, h7, h7b⟩, h8, h9⟩ := h
    obtain ⟨c, s, t1, t2, t3⟩ := h9
    have nl : f_AB_newCapacity G a (nI (n + k)) = rI (nI (2 * cap + 2)) G := by
      unfold f_AB_newCapacity f_AS_newLength
      rw [fa, fl, fc, fc, sh0l, sh0l, nI_sub (by omega), nI_add, if_pos (nI_lt (by omega) (by omega)), nI_add, if_neg (nI_ge (by omega) (by omega)), if_neg (nI_nlt (by omega) (by omega)), bI_rI, if_neg (fun q => by have := nI_eq31 (by omega) (by omega) q; omega), fc, sh0r, show cap + (cap + 2) = 2 * cap + 2 by omega]
    rw [if_neg (fun q => hle ((dif_le0 (by omega) (by omega)).mp q)), fa, fo, nl, bI_rI, fc, sh0l]
    have c1 : ∀ z, z < G.2.1 → (gNew G (2 * cap + 2) (zI 101 (2 * cap + 2) (fun _ => 0))).2.2 z = G.2.2 z := fun z hz => gNew_ne (by omega)
    have a1 : (gNew G (2 * cap + 2) (zI 101 (2 * cap + 2) (fun _ => 0))).2.2 G.2.1 = some (zI 101 (2 * cap + 2) (fun _ => 0)) := gNew_at
    have w1 : gWf (gNew G (2 * cap + 2) (zI 101 (2 * cap + 2) (fun _ => 0))) := h2.new
    have s1 : (gNew G (2 * cap + 2) (zI 101 (2 * cap + 2) (fun _ => 0))).2.1 = G.2.1 + 1 ∧ (gNew G (2 * cap + 2) (zI 101 (2 * cap + 2) (fun _ => 0))).1 = G.1 + (2 * cap + 2) := ⟨rfl, rfl⟩
    have e1 : ∀ k : Nat → gH → gR, gNewA G 101 (nI (2 * cap + 2)) k = k G.2.1 (gNew G (2 * cap + 2) (zI 101 (2 * cap + 2) (fun _ => 0))) := fun k => gNewB_of (by omega)
    generalize gNew G (2 * cap + 2) (zI 101 (2 * cap + 2) (fun _ => 0)) = G1 at c1 a1 w1 s1 e1
    have la := h2 _ _ h6
    have le := h2 _ _ h7
    have h7' := (c1 e le).trans h7
    have h6' : (gUp G1 G.2.1 (zI 101 (2 * cap + 2) (va_cpy g (fun _ => 0) 0 0 cap))).2.2 a = some (.inr (10, [.ref e, .int 0, .int v2, .int (nI n)])) := by rw [gUp_ne (by omega), c1 a la]; exact h6
    have cp : f_AR_copyOf1 G e (nI (2 * cap + 2)) = rA G.2.1 (gUp G1 G.2.1 (zI 101 (2 * cap + 2) (va_cpy g (fun _ => 0) 0 0 cap))) := by
      unfold f_AR_copyOf1
      rw [fl, if_neg (fun q => by have := nI_eq31 (by omega) (by omega) q; omega), e1, gLenK_of h7' rfl, if_neg (nI_nlt (by omega) (by omega)), gCpB_of h7' rfl a1 (by omega) (by omega) (by omega) (by omega) (fun i hi => by rw [Nat.zero_add]; exact h7b i hi)]
    refine ⟨G.2.1, 2 * cap + 2, gUp (gUp G1 G.2.1 (zI 101 (2 * cap + 2) (va_cpy g (fun _ => 0) 0 0 cap))) a (.inr (10, [.ref G.2.1, .int 0, .int v2, .int (nI n)])), ?_, ⟨fun z hz => ?_, ?_, h3, by omega, by omega, ⟨v2, gUp_at⟩, ⟨va_cpy g (fun _ => 0) 0 0 cap, ?_, cpy_fits (fun i hi => by rw [Nat.zero_add]; exact h7b i hi) (fun _ _ => fits0)⟩, by omega, ⟨c + 1, s + (2 * cap + 2), ?_, ?_, ?_⟩⟩, by omega⟩
    · rw [cp, bA_rA, gPut_of h6' (show 0 < 4 by decide)]; rfl
    · rw [gUp_ne (by omega), gUp_ne (by omega), c1 z (by omega)]; exact h1 z hz
    · refine gWf.up (w1.up ?_) ?_
      · omega
      · show a < G1.2.1; omega
    · rw [gUp_ne (by omega)]; exact gUp_at
    · show G1.2.1 = _; omega
    · show G1.1 = _; omega
    · rcases t3 with ⟨z1, z2, z3⟩ | ⟨z1, z2, z3⟩ | ⟨z1, z2, z3⟩ | ⟨z1, z2, z3⟩ | ⟨z1, z2, z3⟩
      · exact Or.inr (Or.inl (by omega))
      · exact Or.inr (Or.inr (Or.inl (by omega)))
      · exact Or.inr (Or.inr (Or.inr (Or.inl (by omega))))
      · exact Or.inr (Or.inr (Or.inr (Or.inr (by omega))))
      · omega
theorem sb_lat (h : isSB G0 a e cap n G) : f_AB_isLatin1 w G a = rI 1 G := by
  unfold f_AB_isLatin1
  rw [if_neg (by decide), h.fld.2.1, if_pos rfl, rZ_1]
theorem sb_chr {c : Nat} (h : isSB G0 a e cap n G) (hn : n + 1 ≤ 280) (hc : c ≤ 255) : ∃ (e' cap' : Nat) (G' : gH), f_SB_append1 w G a (nI c) = rA a G' ∧ isSB G0 a e' cap' (n + 1) G' := by
  obtain ⟨e1, cap1, G1, r1, i1, l1⟩ := sb_ens (k := 1) h (by omega) hn
  obtain ⟨G2, r2, i2⟩ := i1.cnt (m := n + 1) l1
  obtain ⟨G3, r3, i3⟩ := i2.byt (i := n) (by omega) (nI c).toInt8.toInt32
  obtain ⟨-, -, f3, ⟨fs, fo⟩, -⟩ := h.fld
  obtain ⟨ga, -, g3, ⟨gs, go⟩, -⟩ := i1.fld
  refine ⟨e1, cap1, G3, ?_, i3⟩
  unfold f_SB_append1 f_AB_append1 f_L1_canEncode
  rw [fo, f3, fo, nI_add, r1, bV_rV, go, sb_lat i1, bI_rI, if_neg (by decide), if_neg (nI_nlt (by omega) (by omega)), rZ_1, bI_rI, if_neg (by decide), ga, g3, nI_add, r2, r3, bA_rA]
theorem sb_str {q n0 : Nat} (h : isSB G0 a e cap n G) (hw : gWf G0) (hs : kStr G0 q n0) (hn0 : n0 ≤ 3) (hn : n + n0 ≤ 280) : ∃ (e' cap' : Nat) (G' : gH), f_SB_append3 w G a q = rA a G' ∧ isSB G0 a e' cap' (n + n0) G' := by
  obtain ⟨e1, cap1, G1, r1, i1, l1⟩ := sb_ens (k := n0) h hn0 hn
  have k0 := hs.gB hw h.1
  have k1 := hs.gB hw i1.1
  obtain ⟨-, -, f3, ⟨fs, fo⟩, -⟩ := h.fld
  obtain ⟨ga, gc, g3, ⟨gs, go⟩, -⟩ := i1.fld
  have kl := k0.len (w := w)
  have kc := k1.coder (w := w)
  obtain ⟨c0, x0, c20, fs0, y0, z1, z2, -⟩ := k0
  have hcap := i1.2.2.2.2.2.2.2.2.le
  obtain ⟨c1, x1, c21, fs1, y1, u1, u2, u3, u4, u5, u6, u7⟩ := k1
  -- the signs are written
  obtain ⟨h1, h2, h3, h4, h5, ⟨v2, h6⟩, ⟨g, h7, h7b⟩, h8, h9⟩ := id i1
  have i2 : isSB G0 a e1 cap1 n (gUp G1 e1 (zI 101 cap1 (va_cpy y1 g 0 n n0))) := ⟨fun z hz => by rw [gUp_ne (by omega)]; exact h1 z hz, h2.up (h2 _ _ h7), h3, h4, h5, ⟨v2, by rw [gUp_ne h5]; exact h6⟩, ⟨_, gUp_at, cpy_fits (fun i hi => by rw [Nat.zero_add]; exact u7 i hi) h7b⟩, h8, h9⟩
  obtain ⟨-, -, k3, -, -⟩ := i2.fld
  obtain ⟨G3, r3, i3⟩ := i2.cnt (m := n + n0) l1
  refine ⟨e1, cap1, G3, ?_, i3⟩
  unfold f_SB_append3 f_AB_append3
  rw [fo, gOb_of z1 z2, kl, bI_rI, f3, fo, nI_add, r1, bV_rV, g3, go]
  unfold f_AB_putStringAt f_AB_inflateIfNeededFor f_ST_getBytes
  rw [go, if_neg (by decide), gc, gOb_of u1 u2, kc, bI_rI, if_pos rfl, bV_rV, ga, gc, gOb_of u1 u2, gOb_of u1 u2, kc, bI_rI, if_pos rfl, gFA_of u1 u2 u3, gFA_of u1 u2 u3, gLenK_of u5 u6, sh0l]
  rw [show gCpB G1 x1 (nI 0) e1 (nI n) (nI n0) _ = _ from gCpB_of u5 u6 h7 (by omega) (by omega) (by omega) (by omega) (fun i hi => by rw [Nat.zero_add]; exact u7 i hi), bV_rV, bV_rV, k3, nI_add, r3, bA_rA]
theorem sb_int {k : Nat} {g1 g2 : Nat → Int32} (h : isSB G0 a e cap n G) (hw : gWf G0) (d1 : G0.2.2 (w 1) = some (zI 1101 100 g1)) (d2 : G0.2.2 (w 2) = some (zI 1101 100 g2)) (hk : k < 1000) (hn : n + 3 ≤ 280) : ∃ (e' cap' : Nat) (G' : gH), f_SB_append2 w G a (nI k) = rA a G' ∧ isSB G0 a e' cap' (n + dg k) G' := by
  have hd := dg_le k
  obtain ⟨e1, cap1, G1, r1, i1, l1⟩ := sb_ens (k := dg k) h (by omega) (by omega)
  obtain ⟨-, -, f3, ⟨fs, fo⟩, -⟩ := h.fld
  obtain ⟨ga, gc, -, ⟨gs, go⟩, -⟩ := i1.fld
  have t1 : ∀ (G' : gH), gB G0.2.1 G0 G' → ∀ i, i < 100 → ∀ K : Int32 → gR, gLd G' (w 1) 101 (nI i) K = K (g1 i) := fun G' hB i hi K => gLdK_of ((hB _ (hw _ _ d1)).trans d1) rfl hi (by omega)
  have t2 : ∀ (G' : gH), gB G0.2.1 G0 G' → ∀ i, i < 100 → ∀ K : Int32 → gR, gLd G' (w 2) 101 (nI i) K = K (g2 i) := fun G' hB i hi K => gLdK_of ((hB _ (hw _ _ d2)).trans d2) rfl hi (by omega)
  have nn : ∀ j : Nat, -(-(nI j)) = nI j := fun j => by simp
  -- the last one or two signs
  have fin : ∀ (G2 : gH) (j p : Nat), isSB G0 a e1 cap1 n G2 → j < 100 → p ≤ cap1 → (if j < 10 then 1 else 2) ≤ p → ∃ (v : Int32) (G3 : gH), (gLd G2 (w 1) 101 (-(-(nI j))) fun v12 => gSt G2 e1 101 (nI p + (-1)) (vp_nar .byte v12) fun G13 => if (-9) ≤ -(nI j) then (if nI 0 = 0 then rI (nI p + (-1)) G13
          else gSt G13 e1 101 ((nI p + (-1)) + (-1)) (vp_nar .byte (nI 45)) fun G14 => rI ((nI p + (-1)) + (-1)) G14)
        else gLd G13 (w 2) 101 (-(-(nI j))) fun v16 => gSt G13 e1 101 ((nI p + (-1)) + (-1)) (vp_nar .byte v16) fun G17 => if nI 0 = 0 then rI ((nI p + (-1)) + (-1)) G17
          else gSt G17 e1 101 (((nI p + (-1)) + (-1)) + (-1)) (vp_nar .byte (nI 45)) fun G18 => rI (((nI p + (-1)) + (-1)) + (-1)) G18) = rI v G3 ∧ isSB G0 a e1 cap1 n G3 := fun G2 j p i2 hj hp h1 => by
    obtain ⟨p, rfl⟩ : ∃ p', p = p' + 1 := ⟨p - 1, by split at h1 <;> omega⟩
    obtain ⟨G3, r3, i3⟩ := i2.byt (i := p) (by omega) (g1 j)
    have m9 : ((-9 : Int32) ≤ -(nI j)) ↔ j < 10 := by
      rw [show (-9 : Int32) = -(nI 9) by decide, neg_nI, neg_nI, Int32.le_iff_toInt_le, Int32.toInt_ofInt_of_le (by omega) (by omega), Int32.toInt_ofInt_of_le (by omega) (by omega)]
      omega
    rw [nn, t1 G2 i2.1 j hj, nI_m1, r3]
    by_cases h9 : j < 10
    · exact ⟨nI p, G3, by rw [if_pos (m9.mpr h9), if_pos nI0], i3⟩
    · rw [if_neg h9] at h1
      obtain ⟨p, rfl⟩ : ∃ p', p = p' + 1 := ⟨p - 1, by omega⟩
      obtain ⟨G4, r4, i4⟩ := i3.byt (i := p) (by omega) (g2 j)
      exact ⟨nI p, G4, by rw [if_neg (fun q => h9 (m9.mp q)), t2 G3 i3.1 j hj, nI_m1, r4, if_pos nI0], i4⟩
  have gch : ∃ (v : Int32) (G3 : gH), f_IN_getChars w G1 (nI k) (nI (n + dg k)) e1 = rI v G3 ∧ isSB G0 a e1 cap1 n G3 := by
    have m100 : ∀ j, j < 1000 → (((-100 : Int32) < -(nI j)) ↔ j < 100) := fun j hj => by
      rw [show (-100 : Int32) = -(nI 100) by decide, neg_nI, neg_nI, Int32.lt_iff_toInt_lt, Int32.toInt_ofInt_of_le (by omega) (by omega), Int32.toInt_ofInt_of_le (by omega) (by omega)]
      omega
    unfold f_IN_getChars
    rw [if_pos (show 0 ≤ nI k from nI_pos' (by omega)), if_pos nI0]
    show ∃ v G3, f_IN_getChars_L22 w _ (5998 + 1 + 1) G1 (-(nI k)) e1 (nI (n + dg k)) (nI 0) = _ ∧ _
    unfold f_IN_getChars_L22
    by_cases h100 : k < 100
    · rw [if_pos ((m100 k hk).mpr h100)]
      exact fin G1 k (n + dg k) i1 h100 l1 (by unfold dg; split <;> omega)
    · have e3 : dg k = 3 := by unfold dg; rw [if_neg (by omega), if_neg h100]
      rw [if_neg (fun q => h100 ((m100 k hk).mp q)), e3]
      -- three signs
      have dv : ∀ K : Int32 → gR, gDiv (-(nI k)) (nI 100) K = K (-(nI (k / 100))) := fun K => by
        unfold gDiv
        rw [if_neg (by decide)]
        exact congrArg K (dv_all k hk).1
      have ix : -(nI (k / 100)) * nI 100 - -(nI k) = nI (k % 100) := (dv_all k hk).2
      obtain ⟨G2, r2, i2⟩ := i1.byt (i := n + 2) (by omega) (g1 (k % 100))
      obtain ⟨G3, r3, i3⟩ := i2.byt (i := n + 1) (by omega) (g2 (k % 100))
      obtain ⟨v, G4, r4, i4⟩ := fin G3 (k / 100) (n + 1) i3 (by omega) (by omega) (by rw [if_pos (by omega)]; omega)
      refine ⟨v, G4, ?_, i4⟩
      rw [dv, ix, t1 G1 i1.1 _ (by omega), show n + 3 = n + 2 + 1 by omega, nI_m1, r2, t2 G2 i2.1 _ (by omega), show n + 2 = n + 1 + 1 by omega, nI_m1, r3]
      unfold f_IN_getChars_L22
      rw [if_pos ((m100 _ (by omega)).mpr (by omega))]
      exact r4
  obtain ⟨v, G3, r3, i3⟩ := gch
  obtain ⟨G4, r4, i4⟩ := i3.cnt (m := n + dg k) l1
  refine ⟨e1, cap1, G4, ?_, i4⟩
  unfold f_SB_append2 f_AB_append2
  rw [fo, f3, s_size10 hk, bI_rI, fo, nI_add, r1, bV_rV, go, sb_lat i1, bI_rI, if_neg (by decide), ga, r3, bI_rI, r4, bA_rA]
end Sb
