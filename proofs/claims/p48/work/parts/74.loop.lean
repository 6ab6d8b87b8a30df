/-! The law's loop, at the level of the heap's view. -/
theorem and63 (x : Int32) : ∃ k : Nat, k < 64 ∧ x &&& nI 63 = nI k := by
  refine ⟨x.toBitVec.toNat &&& 63, Nat.lt_of_le_of_lt Nat.and_le_right (by decide), ?_⟩
  refine Int32.toBitVec_inj.mp (BitVec.eq_of_toNat_eq ?_)
  have h : x.toBitVec.toNat &&& 63 < 2 ^ 32 := Nat.lt_of_le_of_lt Nat.and_le_right (by decide)
  have e : (nI (x.toBitVec.toNat &&& 63)).toBitVec.toNat = x.toBitVec.toNat &&& 63 := by
    show (BitVec.ofNat 32 (x.toBitVec.toNat &&& 63)).toNat = _
    rw [BitVec.toNat_ofNat, Nat.mod_eq_of_lt h]
  rw [e, Int32.toBitVec_and, BitVec.toNat_and]
  rfl
theorem k_O_init {l : Launch} {D : va_G} {B : Nat} {O : State → Heap → Prop} (hV : zG l D B O) (G : gH) (a0 : Nat) : gMet (zVm l D B O) m_O_init 1 [.ref a0] G (rV G) := by
  refine gMet.of (by decide +kernel) (Nat.le_of_ble_eq_true rfl) [some (.ref a0)] (fun ls h => zEn_ok (n := 1) h) ?_
  intro o Gf h
  refine Y.blk (pc' := 1) (L' := [some (.ref a0)]) (st' := [.ref a0]) (sg := [(.aload_n 0, 0)]) (by decide +kernel) rfl ?_
  refine Y.objInit lk_O_1 in_OJ_init cw_OJ_init (by decide) rfl (Nat.le_of_ble_eq_true rfl) (by decide +kernel) ?_
  exact Y.vret rfl (by decide +kernel) h
def lQ : Option Value → zH → Prop := fun v _ => v = some (.int 1)
def lQX : String → zH → Prop := fun _ _ => False

def swO : Array Int := #[205, 245, 297, 349, 389, 441, 481, 521, 561, 601, 653, 681, 733, 773, 829, 869, 897, 937, 989, 1041, 1069, 1109, 1137, 1165, 1205, 1233, 1273, 1329, 1357, 1385, 1425, 1465, 1505, 1545, 1585, 1625, 1665, 1705, 1745, 1785, 1841, 1869, 1897, 1937, 1977, 2005, 2018, 2031]
theorem law_end {V : zV} {mc ms : Nat} {L : zLs} {G : zH} : Z V m_law 40 lQ lQX mc ms 2093 L [] G :=
  Z.blk (pc' := 2094) (L' := L) (st' := [.int (nI 1)]) (sg := [(.iconst 1, nI 1)]) (by decide +kernel) rfl (Z.iret (st := []) rfl rfl (by decide +kernel) rfl)
set_option maxRecDepth 20000 in
theorem law_case {l : Launch} {D : va_G} {B : Nat} {O : State → Heap → Prop} {w : Nat → Nat} (hV : zGw l D B O w) (hN : zNo O) {mc ms b o q bS Ln m : Nat} {xs : Nat → Int32} {G : zH} (i : Int32) (hX : zSc O B bS Ln xs) (h1 : vp_in (i + nI 1) Ln) (h2 : vp_in (i + nI 2) Ln) (h3 : vp_in (i + nI 3) Ln) (hm : m < 600) (hJ : lJ w b o q bS Ln xs m G) (kk : ∀ (m' : Nat) (G' : zH), m' ≤ m + 1 → lJ w b o q bS Ln xs m' G' → Z (zVm l D B O) m_law 40 lQ lQX mc ms 2087 [some (.ref bS), some (.ref b), some (.ref o), some (.ref q), some (.int i), none, none] [] G') (k : Nat) (hk : k < 64) : Z (zVm l D B O) m_law 40 lQ lQX (mc + 400 + 9) (ms + 12000 + 846) 43 [some (.ref bS), some (.ref b), some (.ref o), some (.ref q), some (.int i), none, none] [.int (nI k)] G := by
  have hd : decode m_law.2.1 43 = .ok (.tableswitch 2044 0 47 swO, 205) := by decide +kernel
  match k, hk with
  | 0, _ => exact Z.swIn (off := 205) (tgt := 248) hd (by decide +kernel) (by decide +kernel) (by decide +kernel) (by decide) (lc_0 hV hN i hX h1 h2 h3 hm hJ kk)
  | 1, _ => exact Z.swIn (off := 245) (tgt := 288) hd (by decide +kernel) (by decide +kernel) (by decide +kernel) (by decide) (lc_1 hV hN i hX h1 h2 h3 hm hJ kk)
  | 2, _ => exact Z.swIn (off := 297) (tgt := 340) hd (by decide +kernel) (by decide +kernel) (by decide +kernel) (by decide) (lc_2 hV hN i hX h1 h2 h3 hm hJ kk)
  | 3, _ => exact Z.swIn (off := 349) (tgt := 392) hd (by decide +kernel) (by decide +kernel) (by decide +kernel) (by decide) (lc_3 hV hN i hX h1 h2 h3 hm hJ kk)
  | 4, _ => exact Z.swIn (off := 389) (tgt := 432) hd (by decide +kernel) (by decide +kernel) (by decide +kernel) (by decide) (lc_4 hV hN i hX h1 h2 h3 hm hJ kk)
  | 5, _ => exact Z.swIn (off := 441) (tgt := 484) hd (by decide +kernel) (by decide +kernel) (by decide +kernel) (by decide) (lc_5 hV hN i hX h1 h2 h3 hm hJ kk)
  | 6, _ => exact Z.swIn (off := 481) (tgt := 524) hd (by decide +kernel) (by decide +kernel) (by decide +kernel) (by decide) (lc_6 hV hN i hX h1 h2 h3 hm hJ kk)
  | 7, _ => exact Z.swIn (off := 521) (tgt := 564) hd (by decide +kernel) (by decide +kernel) (by decide +kernel) (by decide) (lc_7 hV hN i hX h1 h2 h3 hm hJ kk)
  | 8, _ => exact Z.swIn (off := 561) (tgt := 604) hd (by decide +kernel) (by decide +kernel) (by decide +kernel) (by decide) (lc_8 hV hN i hX h1 h2 h3 hm hJ kk)
  | 9, _ => exact Z.swIn (off := 601) (tgt := 644) hd (by decide +kernel) (by decide +kernel) (by decide +kernel) (by decide) (lc_9 hV hN i hX h1 h2 h3 hm hJ kk)
  | 10, _ => exact Z.swIn (off := 653) (tgt := 696) hd (by decide +kernel) (by decide +kernel) (by decide +kernel) (by decide) (lc_10 hV hN i hX h1 h2 h3 hm hJ kk)
  | 11, _ => exact Z.swIn (off := 681) (tgt := 724) hd (by decide +kernel) (by decide +kernel) (by decide +kernel) (by decide) (lc_11 hV hN i hX h1 h2 h3 hm hJ kk)
  | 12, _ => exact Z.swIn (off := 733) (tgt := 776) hd (by decide +kernel) (by decide +kernel) (by decide +kernel) (by decide) (lc_12 hV hN i hX h1 h2 h3 hm hJ kk)
  | 13, _ => exact Z.swIn (off := 773) (tgt := 816) hd (by decide +kernel) (by decide +kernel) (by decide +kernel) (by decide) (lc_13 hV hN i hX h1 h2 h3 hm hJ kk)
  | 14, _ => exact Z.swIn (off := 829) (tgt := 872) hd (by decide +kernel) (by decide +kernel) (by decide +kernel) (by decide) (lc_14 hV hN i hX h1 h2 h3 hm hJ kk)
  | 15, _ => exact Z.swIn (off := 869) (tgt := 912) hd (by decide +kernel) (by decide +kernel) (by decide +kernel) (by decide) (lc_15 hV hN i hX h1 h2 h3 hm hJ kk)
  | 16, _ => exact Z.swIn (off := 897) (tgt := 940) hd (by decide +kernel) (by decide +kernel) (by decide +kernel) (by decide) (lc_16 hV hN i hX h1 h2 h3 hm hJ kk)
  | 17, _ => exact Z.swIn (off := 937) (tgt := 980) hd (by decide +kernel) (by decide +kernel) (by decide +kernel) (by decide) (lc_17 hV hN i hX h1 h2 h3 hm hJ kk)
  | 18, _ => exact Z.swIn (off := 989) (tgt := 1032) hd (by decide +kernel) (by decide +kernel) (by decide +kernel) (by decide) (lc_18 hV hN i hX h1 h2 h3 hm hJ kk)
  | 19, _ => exact Z.swIn (off := 1041) (tgt := 1084) hd (by decide +kernel) (by decide +kernel) (by decide +kernel) (by decide) (lc_19 hV hN i hX h1 h2 h3 hm hJ kk)
  | 20, _ => exact Z.swIn (off := 1069) (tgt := 1112) hd (by decide +kernel) (by decide +kernel) (by decide +kernel) (by decide) (lc_20 hV hN i hX h1 h2 h3 hm hJ kk)
  | 21, _ => exact Z.swIn (off := 1109) (tgt := 1152) hd (by decide +kernel) (by decide +kernel) (by decide +kernel) (by decide) (lc_21 hV hN i hX h1 h2 h3 hm hJ kk)
  | 22, _ => exact Z.swIn (off := 1137) (tgt := 1180) hd (by decide +kernel) (by decide +kernel) (by decide +kernel) (by decide) (lc_22 hV hN i hX h1 h2 h3 hm hJ kk)
  | 23, _ => exact Z.swIn (off := 1165) (tgt := 1208) hd (by decide +kernel) (by decide +kernel) (by decide +kernel) (by decide) (lc_23 hV hN i hX h1 h2 h3 hm hJ kk)
  | 24, _ => exact Z.swIn (off := 1205) (tgt := 1248) hd (by decide +kernel) (by decide +kernel) (by decide +kernel) (by decide) (lc_24 hV hN i hX h1 h2 h3 hm hJ kk)
  | 25, _ => exact Z.swIn (off := 1233) (tgt := 1276) hd (by decide +kernel) (by decide +kernel) (by decide +kernel) (by decide) (lc_25 hV hN i hX h1 h2 h3 hm hJ kk)
  | 26, _ => exact Z.swIn (off := 1273) (tgt := 1316) hd (by decide +kernel) (by decide +kernel) (by decide +kernel) (by decide) (lc_26 hV hN i hX h1 h2 h3 hm hJ kk)
  | 27, _ => exact Z.swIn (off := 1329) (tgt := 1372) hd (by decide +kernel) (by decide +kernel) (by decide +kernel) (by decide) (lc_27 hV hN i hX h1 h2 h3 hm hJ kk)
  | 28, _ => exact Z.swIn (off := 1357) (tgt := 1400) hd (by decide +kernel) (by decide +kernel) (by decide +kernel) (by decide) (lc_28 hV hN i hX h1 h2 h3 hm hJ kk)
  | 29, _ => exact Z.swIn (off := 1385) (tgt := 1428) hd (by decide +kernel) (by decide +kernel) (by decide +kernel) (by decide) (lc_29 hV hN i hX h1 h2 h3 hm hJ kk)
  | 30, _ => exact Z.swIn (off := 1425) (tgt := 1468) hd (by decide +kernel) (by decide +kernel) (by decide +kernel) (by decide) (lc_30 hV hN i hX h1 h2 h3 hm hJ kk)
  | 31, _ => exact Z.swIn (off := 1465) (tgt := 1508) hd (by decide +kernel) (by decide +kernel) (by decide +kernel) (by decide) (lc_31 hV hN i hX h1 h2 h3 hm hJ kk)
  | 32, _ => exact Z.swIn (off := 1505) (tgt := 1548) hd (by decide +kernel) (by decide +kernel) (by decide +kernel) (by decide) (lc_32 hV hN i hX h1 h2 h3 hm hJ kk)
  | 33, _ => exact Z.swIn (off := 1545) (tgt := 1588) hd (by decide +kernel) (by decide +kernel) (by decide +kernel) (by decide) (lc_33 hV hN i hX h1 h2 h3 hm hJ kk)
  | 34, _ => exact Z.swIn (off := 1585) (tgt := 1628) hd (by decide +kernel) (by decide +kernel) (by decide +kernel) (by decide) (lc_34 hV hN i hX h1 h2 h3 hm hJ kk)
  | 35, _ => exact Z.swIn (off := 1625) (tgt := 1668) hd (by decide +kernel) (by decide +kernel) (by decide +kernel) (by decide) (lc_35 hV hN i hX h1 h2 h3 hm hJ kk)
  | 36, _ => exact Z.swIn (off := 1665) (tgt := 1708) hd (by decide +kernel) (by decide +kernel) (by decide +kernel) (by decide) (lc_36 hV hN i hX h1 h2 h3 hm hJ kk)
  | 37, _ => exact Z.swIn (off := 1705) (tgt := 1748) hd (by decide +kernel) (by decide +kernel) (by decide +kernel) (by decide) (lc_37 hV hN i hX h1 h2 h3 hm hJ kk)
  | 38, _ => exact Z.swIn (off := 1745) (tgt := 1788) hd (by decide +kernel) (by decide +kernel) (by decide +kernel) (by decide) (lc_38 hV hN i hX h1 h2 h3 hm hJ kk)
  | 39, _ => exact Z.swIn (off := 1785) (tgt := 1828) hd (by decide +kernel) (by decide +kernel) (by decide +kernel) (by decide) (lc_39 hV hN i hX h1 h2 h3 hm hJ kk)
  | 40, _ => exact Z.swIn (off := 1841) (tgt := 1884) hd (by decide +kernel) (by decide +kernel) (by decide +kernel) (by decide) (lc_40 hV hN i hX h1 h2 h3 hm hJ kk)
  | 41, _ => exact Z.swIn (off := 1869) (tgt := 1912) hd (by decide +kernel) (by decide +kernel) (by decide +kernel) (by decide) (lc_41 hV hN i hX h1 h2 h3 hm hJ kk)
  | 42, _ => exact Z.swIn (off := 1897) (tgt := 1940) hd (by decide +kernel) (by decide +kernel) (by decide +kernel) (by decide) (lc_42 hV hN i hX h1 h2 h3 hm hJ kk)
  | 43, _ => exact Z.swIn (off := 1937) (tgt := 1980) hd (by decide +kernel) (by decide +kernel) (by decide +kernel) (by decide) (lc_43 hV hN i hX h1 h2 h3 hm hJ kk)
  | 44, _ => exact Z.swIn (off := 1977) (tgt := 2020) hd (by decide +kernel) (by decide +kernel) (by decide +kernel) (by decide) (lc_44 hV hN i hX h1 h2 h3 hm hJ kk)
  | 45, _ => exact Z.swIn (off := 2005) (tgt := 2048) hd (by decide +kernel) (by decide +kernel) (by decide +kernel) (by decide) (lc_45 hV hN i hX h1 h2 h3 hm hJ kk)
  | 46, _ => exact Z.swIn (off := 2018) (tgt := 2061) hd (by decide +kernel) (by decide +kernel) (by decide +kernel) (by decide) (lc_46 hV hN i hX h1 h2 h3 hm hJ kk)
  | 47, _ => exact Z.swIn (off := 2031) (tgt := 2074) hd (by decide +kernel) (by decide +kernel) (by decide +kernel) (by decide) (lc_47 hV hN i hX h1 h2 h3 hm hJ kk)
  | k + 48, hk =>
    have e : (nI (k + 48)).toInt = ((k + 48 : Nat) : Int) := nI_toInt (by omega)
    exact Z.swOut (tgt := 2087) hd (Or.inr (by rw [e]; omega)) (by decide) (Z.room (Nat.le_refl _) (by omega) (by omega) (kk m G (Nat.le_succ m) hJ))
theorem law_loop {l : Launch} {D : va_G} {B : Nat} {O : State → Heap → Prop} {w : Nat → Nat} (hV : zGw l D B O w) (hN : zNo O) {b o q bS Ln : Nat} {xs : Nat → Int32} (hL : Ln ≤ 2048) (hX : zSc O B bS Ln xs) : ∀ (r j m : Nat) (G : zH), j + r = Ln / 4 → m ≤ j → lJ w b o q bS Ln xs m G →
    Z (zVm l D B O) m_law 40 lQ lQX (r * 409) (r * 12846) 27 [some (.ref bS), some (.ref b), some (.ref o), some (.ref q), some (.int (nI (4 * j))), none, none] [] G := by
  intro r
  induction r with
  | zero =>
    intro j m G hj hm hJ
    refine Z.blk (pc' := 30) (L' := [some (.ref bS), some (.ref b), some (.ref o), some (.ref q), some (.int (nI (4 * j))), none, none]) (st' := [.ref bS, .int (nI (4 * j))]) (sg := [(.iload 4, 0), (.aload_n 0, 0)]) (by decide +kernel) rfl ?_
    refine Z.slen hX (by decide +kernel) ?_
    refine Z.blk (pc' := 33) (L' := [some (.ref bS), some (.ref b), some (.ref o), some (.ref q), some (.int (nI (4 * j))), none, none]) (st' := [.int (nI Ln - nI 4), .int (nI (4 * j))]) (sg := [(.iconst 4, nI 4), (.isub, 0)]) (by decide +kernel) rfl ?_
    refine Z.ic_gt (off := 2060) (tgt := 2093) (by decide +kernel) (by decide) (fun _ => law_end) (fun c => absurd ?_ c)
    by_cases h4 : 4 ≤ Ln
    · rw [nI_sub h4]
      exact nI_lt (by omega) (by omega)
    · have hj0 : j = 0 := by omega
      subst hj0
      have : Ln = 0 ∨ Ln = 1 ∨ Ln = 2 ∨ Ln = 3 := by omega
      rcases this with rfl | rfl | rfl | rfl <;> decide
  | succ r ih =>
    intro j m G hj hm hJ
    have h4 : 4 * j + 4 ≤ Ln := by omega
    refine Z.blk (pc' := 30) (L' := [some (.ref bS), some (.ref b), some (.ref o), some (.ref q), some (.int (nI (4 * j))), none, none]) (st' := [.ref bS, .int (nI (4 * j))]) (sg := [(.iload 4, 0), (.aload_n 0, 0)]) (by decide +kernel) rfl ?_
    refine Z.slen hX (by decide +kernel) ?_
    refine Z.blk (pc' := 33) (L' := [some (.ref bS), some (.ref b), some (.ref o), some (.ref q), some (.int (nI (4 * j))), none, none]) (st' := [.int (nI Ln - nI 4), .int (nI (4 * j))]) (sg := [(.iconst 4, nI 4), (.isub, 0)]) (by decide +kernel) rfl ?_
    refine Z.ic_gt (off := 2060) (tgt := 2093) (by decide +kernel) (by decide) (fun _ => law_end) (fun _ => ?_)
    refine Z.blk (pc' := 39) (L' := [some (.ref bS), some (.ref b), some (.ref o), some (.ref q), some (.int (nI (4 * j))), none, none]) (st' := [.int (nI (4 * j)), .ref bS]) (sg := [(.aload_n 0, 0), (.iload 4, 0)]) (by decide +kernel) rfl ?_
    refine Z.sald hX (vp_in_nI (by omega) (by omega)) (by decide +kernel) ?_
    refine Z.blk (pc' := 43) (L' := [some (.ref bS), some (.ref b), some (.ref o), some (.ref q), some (.int (nI (4 * j))), none, none]) (st' := [.int (xs (nI (4 * j)).toNatClampNeg &&& nI 63)]) (sg := [(.bipush 63, nI 63), (.iand, 0)]) (by decide +kernel) rfl ?_
    obtain ⟨k, hk, ek⟩ := and63 (xs (nI (4 * j)).toNatClampNeg)
    rw [ek]
    refine Z.room (mc' := r * 409 + 400 + 9) (ms' := r * 12846 + 12000 + 846) (Nat.le_refl _) (by omega) (by omega) ?_
    refine law_case hV hN (nI (4 * j)) hX (by rw [nI_add]; exact vp_in_nI (by omega) (by omega)) (by rw [nI_add]; exact vp_in_nI (by omega) (by omega)) (by rw [nI_add]; exact vp_in_nI (by omega) (by omega)) (by omega) hJ (fun m' G' hm' hJ' => ?_) k hk
    refine Z.blk (pc' := 2090) (L' := [some (.ref bS), some (.ref b), some (.ref o), some (.ref q), some (.int (nI (4 * j) + nI 4)), none, none]) (st' := []) (sg := [(.iinc 4 4, nI 4)]) (by decide +kernel) rfl ?_
    refine Z.goto (off := -2063) (tgt := 27) (by decide +kernel) (by decide) ?_
    rw [nI_add]
    exact ih (j + 1) m' G' (by omega) (by omega) hJ'

