/-! The law's loop, at the level of the heap's view. -/
theorem and63 (x : Int32) : ∃ k : Nat, k < 64 ∧ x &&& nI 63 = nI k := by
  refine ⟨x.toBitVec.toNat &&& 63, Nat.lt_of_le_of_lt Nat.and_le_right (by decide), ?_⟩
  refine Int32.toBitVec_inj.mp (BitVec.eq_of_toNat_eq ?_)
  have h : x.toBitVec.toNat &&& 63 < 2 ^ 32 := Nat.lt_of_le_of_lt Nat.and_le_right (by decide)
  have e : (nI (x.toBitVec.toNat &&& 63)).toBitVec.toNat = x.toBitVec.toNat &&& 63 := by
    show (BitVec.ofNat 32 (x.toBitVec.toNat &&& 63)).toNat = _
    rw [BitVec.toNat_ofNat, Nat.mod_eq_of_lt h]
  rw [e, Int32.toBitVec_and, BitVec.toNat_and]
  rfl
theorem k_O_init {l : Launch} {D : va_G} {B : Nat} {O : State → Heap → Prop} (hV : zG l D B O) (G : gH) (a0 : Nat) : gMet (zVm l D B O) m_O_init 1 [.ref a0] G (rV G) := by
  refine gMet.of (by decide +kernel) (Nat.le_of_ble_eq_true rfl) [some (.ref a0)] (fun ls h => zEn_ok (n := 1) h) ?_
  intro o Gf h
  refine Y.blk (pc' := 1) (L' := [some (.ref a0)]) (st' := [.ref a0]) (sg := [(.aload_n 0, 0)]) (by decide +kernel) rfl ?_
  refine Y.objInit lk_O_1 in_OJ_init cw_OJ_init (by decide) rfl (Nat.le_of_ble_eq_true rfl) (by decide +kernel) ?_
  exact Y.vret rfl (by decide +kernel) h
def lQ : Option Value → zH → Prop := fun v _ => v = some (.int 1)
def lQX : String → zH → Prop := fun _ _ => False

def swO : Array Int := #[205, 245, 297, 349, 389, 441, 510, 550, 590, 630, 682, 710, 762, 802, 858, 898, 926, 966, 1018, 1070, 1098, 1138, 1166, 1194, 1234, 1262, 1302, 1358, 1386, 1414, 1454, 1494, 1534, 1574, 1614, 1654, 1694, 1734, 1774, 1814, 1870, 1898, 1926, 1966, 2006, 2034, 2047, 2060]
theorem law_end {V : zV} {mc ms : Nat} {L : zLs} {G : zH} : Z V m_law 40 lQ lQX mc ms 2122 L [] G :=
  Z.blk (pc' := 2123) (L' := L) (st' := [.int (nI 1)]) (sg := [(.iconst 1, nI 1)]) (by decide +kernel) rfl (Z.iret (st := []) rfl rfl (by decide +kernel) rfl)
set_option maxRecDepth 20000 in
theorem law_case {l : Launch} {D : va_G} {B : Nat} {O : State → Heap → Prop} {w : Nat → Nat} (hV : zGw l D B O w) (hN : zNo O) {mc ms b o q bS Ln m : Nat} {xs : Nat → Int32} {G : zH} (i : Int32) (hX : zSc O B bS Ln xs) (h1 : vp_in (i + nI 1) Ln) (h2 : vp_in (i + nI 2) Ln) (h3 : vp_in (i + nI 3) Ln) (hm : m < 600) (hJ : lJ w b o q bS Ln xs m G) (kk : ∀ (m' : Nat) (G' : zH), m' ≤ m + 1 → lJ w b o q bS Ln xs m' G' → Z (zVm l D B O) m_law 40 lQ lQX mc ms 2116 [some (.ref bS), some (.ref b), some (.ref o), some (.ref q), some (.int i), none, none] [] G') (k : Nat) (hk : k < 64) : Z (zVm l D B O) m_law 40 lQ lQX (mc + 400 + 9) (ms + 12000 + 846) 43 [some (.ref bS), some (.ref b), some (.ref o), some (.ref q), some (.int i), none, none] [.int (nI k)] G := by
  have hd : decode m_law.2.1 43 = .ok (.tableswitch 2073 0 47 swO, 205) := by decide +kernel
  match k, hk with
  | 0, _ => exact Z.swIn (off := 205) (tgt := 248) hd (by decide +kernel) (by decide +kernel) (by decide +kernel) (by decide) (lc_0 hV hN i hX h1 h2 h3 hm hJ kk)
  | 1, _ => exact Z.swIn (off := 245) (tgt := 288) hd (by decide +kernel) (by decide +kernel) (by decide +kernel) (by decide) (lc_1 hV hN i hX h1 h2 h3 hm hJ kk)
  | 2, _ => exact Z.swIn (off := 297) (tgt := 340) hd (by decide +kernel) (by decide +kernel) (by decide +kernel) (by decide) (lc_2 hV hN i hX h1 h2 h3 hm hJ kk)
  | 3, _ => exact Z.swIn (off := 349) (tgt := 392) hd (by decide +kernel) (by decide +kernel) (by decide +kernel) (by decide) (lc_3 hV hN i hX h1 h2 h3 hm hJ kk)
  | 4, _ => exact Z.swIn (off := 389) (tgt := 432) hd (by decide +kernel) (by decide +kernel) (by decide +kernel) (by decide) (lc_4 hV hN i hX h1 h2 h3 hm hJ kk)
  | 5, _ => exact Z.swIn (off := 441) (tgt := 484) hd (by decide +kernel) (by decide +kernel) (by decide +kernel) (by decide) (lc_5 hV hN i hX h1 h2 h3 hm hJ kk)
  | 6, _ => exact Z.swIn (off := 510) (tgt := 553) hd (by decide +kernel) (by decide +kernel) (by decide +kernel) (by decide) (lc_6 hV hN i hX h1 h2 h3 hm hJ kk)
  | 7, _ => exact Z.swIn (off := 550) (tgt := 593) hd (by decide +kernel) (by decide +kernel) (by decide +kernel) (by decide) (lc_7 hV hN i hX h1 h2 h3 hm hJ kk)
  | 8, _ => exact Z.swIn (off := 590) (tgt := 633) hd (by decide +kernel) (by decide +kernel) (by decide +kernel) (by decide) (lc_8 hV hN i hX h1 h2 h3 hm hJ kk)
  | 9, _ => exact Z.swIn (off := 630) (tgt := 673) hd (by decide +kernel) (by decide +kernel) (by decide +kernel) (by decide) (lc_9 hV hN i hX h1 h2 h3 hm hJ kk)
  | 10, _ => exact Z.swIn (off := 682) (tgt := 725) hd (by decide +kernel) (by decide +kernel) (by decide +kernel) (by decide) (lc_10 hV hN i hX h1 h2 h3 hm hJ kk)
  | 11, _ => exact Z.swIn (off := 710) (tgt := 753) hd (by decide +kernel) (by decide +kernel) (by decide +kernel) (by decide) (lc_11 hV hN i hX h1 h2 h3 hm hJ kk)
  | 12, _ => exact Z.swIn (off := 762) (tgt := 805) hd (by decide +kernel) (by decide +kernel) (by decide +kernel) (by decide) (lc_12 hV hN i hX h1 h2 h3 hm hJ kk)
  | 13, _ => exact Z.swIn (off := 802) (tgt := 845) hd (by decide +kernel) (by decide +kernel) (by decide +kernel) (by decide) (lc_13 hV hN i hX h1 h2 h3 hm hJ kk)
  | 14, _ => exact Z.swIn (off := 858) (tgt := 901) hd (by decide +kernel) (by decide +kernel) (by decide +kernel) (by decide) (lc_14 hV hN i hX h1 h2 h3 hm hJ kk)
  | 15, _ => exact Z.swIn (off := 898) (tgt := 941) hd (by decide +kernel) (by decide +kernel) (by decide +kernel) (by decide) (lc_15 hV hN i hX h1 h2 h3 hm hJ kk)
  | 16, _ => exact Z.swIn (off := 926) (tgt := 969) hd (by decide +kernel) (by decide +kernel) (by decide +kernel) (by decide) (lc_16 hV hN i hX h1 h2 h3 hm hJ kk)
  | 17, _ => exact Z.swIn (off := 966) (tgt := 1009) hd (by decide +kernel) (by decide +kernel) (by decide +kernel) (by decide) (lc_17 hV hN i hX h1 h2 h3 hm hJ kk)
  | 18, _ => exact Z.swIn (off := 1018) (tgt := 1061) hd (by decide +kernel) (by decide +kernel) (by decide +kernel) (by decide) (lc_18 hV hN i hX h1 h2 h3 hm hJ kk)
  | 19, _ => exact Z.swIn (off := 1070) (tgt := 1113) hd (by decide +kernel) (by decide +kernel) (by decide +kernel) (by decide) (lc_19 hV hN i hX h1 h2 h3 hm hJ kk)
  | 20, _ => exact Z.swIn (off := 1098) (tgt := 1141) hd (by decide +kernel) (by decide +kernel) (by decide +kernel) (by decide) (lc_20 hV hN i hX h1 h2 h3 hm hJ kk)
  | 21, _ => exact Z.swIn (off := 1138) (tgt := 1181) hd (by decide +kernel) (by decide +kernel) (by decide +kernel) (by decide) (lc_21 hV hN i hX h1 h2 h3 hm hJ kk)
  | 22, _ => exact Z.swIn (off := 1166) (tgt := 1209) hd (by decide +kernel) (by decide +kernel) (by decide +kernel) (by decide) (lc_22 hV hN i hX h1 h2 h3 hm hJ kk)
  | 23, _ => exact Z.swIn (off := 1194) (tgt := 1237) hd (by decide +kernel) (by decide +kernel) (by decide +kernel) (by decide) (lc_23 hV hN i hX h1 h2 h3 hm hJ kk)
  | 24, _ => exact Z.swIn (off := 1234) (tgt := 1277) hd (by decide +kernel) (by decide +kernel) (by decide +kernel) (by decide) (lc_24 hV hN i hX h1 h2 h3 hm hJ kk)
  | 25, _ => exact Z.swIn (off := 1262) (tgt := 1305) hd (by decide +kernel) (by decide +kernel) (by decide +kernel) (by decide) (lc_25 hV hN i hX h1 h2 h3 hm hJ kk)
  | 26, _ => exact Z.swIn (off := 1302) (tgt := 1345) hd (by decide +kernel) (by decide +kernel) (by decide +kernel) (by decide) (lc_26 hV hN i hX h1 h2 h3 hm hJ kk)
  | 27, _ => exact Z.swIn (off := 1358) (tgt := 1401) hd (by decide +kernel) (by decide +kernel) (by decide +kernel) (by decide) (lc_27 hV hN i hX h1 h2 h3 hm hJ kk)
  | 28, _ => exact Z.swIn (off := 1386) (tgt := 1429) hd (by decide +kernel) (by decide +kernel) (by decide +kernel) (by decide) (lc_28 hV hN i hX h1 h2 h3 hm hJ kk)
  | 29, _ => exact Z.swIn (off := 1414) (tgt := 1457) hd (by decide +kernel) (by decide +kernel) (by decide +kernel) (by decide) (lc_29 hV hN i hX h1 h2 h3 hm hJ kk)
  | 30, _ => exact Z.swIn (off := 1454) (tgt := 1497) hd (by decide +kernel) (by decide +kernel) (by decide +kernel) (by decide) (lc_30 hV hN i hX h1 h2 h3 hm hJ kk)
  | 31, _ => exact Z.swIn (off := 1494) (tgt := 1537) hd (by decide +kernel) (by decide +kernel) (by decide +kernel) (by decide) (lc_31 hV hN i hX h1 h2 h3 hm hJ kk)
  | 32, _ => exact Z.swIn (off := 1534) (tgt := 1577) hd (by decide +kernel) (by decide +kernel) (by decide +kernel) (by decide) (lc_32 hV hN i hX h1 h2 h3 hm hJ kk)
  | 33, _ => exact Z.swIn (off := 1574) (tgt := 1617) hd (by decide +kernel) (by decide +kernel) (by decide +kernel) (by decide) (lc_33 hV hN i hX h1 h2 h3 hm hJ kk)
  | 34, _ => exact Z.swIn (off := 1614) (tgt := 1657) hd (by decide +kernel) (by decide +kernel) (by decide +kernel) (by decide) (lc_34 hV hN i hX h1 h2 h3 hm hJ kk)
  | 35, _ => exact Z.swIn (off := 1654) (tgt := 1697) hd (by decide +kernel) (by decide +kernel) (by decide +kernel) (by decide) (lc_35 hV hN i hX h1 h2 h3 hm hJ kk)
  | 36, _ => exact Z.swIn (off := 1694) (tgt := 1737) hd (by decide +kernel) (by decide +kernel) (by decide +kernel) (by decide) (lc_36 hV hN i hX h1 h2 h3 hm hJ kk)
  | 37, _ => exact Z.swIn (off := 1734) (tgt := 1777) hd (by decide +kernel) (by decide +kernel) (by decide +kernel) (by decide) (lc_37 hV hN i hX h1 h2 h3 hm hJ kk)
  | 38, _ => exact Z.swIn (off := 1774) (tgt := 1817) hd (by decide +kernel) (by decide +kernel) (by decide +kernel) (by decide) (lc_38 hV hN i hX h1 h2 h3 hm hJ kk)
  | 39, _ => exact Z.swIn (off := 1814) (tgt := 1857) hd (by decide +kernel) (by decide +kernel) (by decide +kernel) (by decide) (lc_39 hV hN i hX h1 h2 h3 hm hJ kk)
  | 40, _ => exact Z.swIn (off := 1870) (tgt := 1913) hd (by decide +kernel) (by decide +kernel) (by decide +kernel) (by decide) (lc_40 hV hN i hX h1 h2 h3 hm hJ kk)
  | 41, _ => exact Z.swIn (off := 1898) (tgt := 1941) hd (by decide +kernel) (by decide +kernel) (by decide +kernel) (by decide) (lc_41 hV hN i hX h1 h2 h3 hm hJ kk)
  | 42, _ => exact Z.swIn (off := 1926) (tgt := 1969) hd (by decide +kernel) (by decide +kernel) (by decide +kernel) (by decide) (lc_42 hV hN i hX h1 h2 h3 hm hJ kk)
  | 43, _ => exact Z.swIn (off := 1966) (tgt := 2009) hd (by decide +kernel) (by decide +kernel) (by decide +kernel) (by decide) (lc_43 hV hN i hX h1 h2 h3 hm hJ kk)
  | 44, _ => exact Z.swIn (off := 2006) (tgt := 2049) hd (by decide +kernel) (by decide +kernel) (by decide +kernel) (by decide) (lc_44 hV hN i hX h1 h2 h3 hm hJ kk)
  | 45, _ => exact Z.swIn (off := 2034) (tgt := 2077) hd (by decide +kernel) (by decide +kernel) (by decide +kernel) (by decide) (lc_45 hV hN i hX h1 h2 h3 hm hJ kk)
  | 46, _ => exact Z.swIn (off := 2047) (tgt := 2090) hd (by decide +kernel) (by decide +kernel) (by decide +kernel) (by decide) (lc_46 hV hN i hX h1 h2 h3 hm hJ kk)
  | 47, _ => exact Z.swIn (off := 2060) (tgt := 2103) hd (by decide +kernel) (by decide +kernel) (by decide +kernel) (by decide) (lc_47 hV hN i hX h1 h2 h3 hm hJ kk)
  | k + 48, hk =>
    have e : (nI (k + 48)).toInt = ((k + 48 : Nat) : Int) := nI_toInt (by omega)
    exact Z.swOut (tgt := 2116) hd (Or.inr (by rw [e]; omega)) (by decide) (Z.room (Nat.le_refl _) (by omega) (by omega) (kk m G (Nat.le_succ m) hJ))
theorem law_loop {l : Launch} {D : va_G} {B : Nat} {O : State → Heap → Prop} {w : Nat → Nat} (hV : zGw l D B O w) (hN : zNo O) {b o q bS Ln : Nat} {xs : Nat → Int32} (hL : Ln ≤ 2048) (hX : zSc O B bS Ln xs) : ∀ (r j m : Nat) (G : zH), j + r = Ln / 4 → m ≤ j → lJ w b o q bS Ln xs m G →
    Z (zVm l D B O) m_law 40 lQ lQX (r * 409) (r * 12846) 27 [some (.ref bS), some (.ref b), some (.ref o), some (.ref q), some (.int (nI (4 * j))), none, none] [] G := by
  intro r
  induction r with
  | zero =>
    intro j m G hj hm hJ
    refine Z.blk (pc' := 30) (L' := [some (.ref bS), some (.ref b), some (.ref o), some (.ref q), some (.int (nI (4 * j))), none, none]) (st' := [.ref bS, .int (nI (4 * j))]) (sg := [(.iload 4, 0), (.aload_n 0, 0)]) (by decide +kernel) rfl ?_
    refine Z.slen hX (by decide +kernel) ?_
    refine Z.blk (pc' := 33) (L' := [some (.ref bS), some (.ref b), some (.ref o), some (.ref q), some (.int (nI (4 * j))), none, none]) (st' := [.int (nI Ln - nI 4), .int (nI (4 * j))]) (sg := [(.iconst 4, nI 4), (.isub, 0)]) (by decide +kernel) rfl ?_
    refine Z.ic_gt (off := 2089) (tgt := 2122) (by decide +kernel) (by decide) (fun _ => law_end) (fun c => absurd ?_ c)
    by_cases h4 : 4 ≤ Ln
    · rw [nI_sub h4]
      exact nI_lt (by omega) (by omega)
    · have hj0 : j = 0 := by omega
      subst hj0
      have : Ln = 0 ∨ Ln = 1 ∨ Ln = 2 ∨ Ln = 3 := by omega
      rcases this with rfl | rfl | rfl | rfl <;> decide
  | succ r ih =>
    intro j m G hj hm hJ
    have h4 : 4 * j + 4 ≤ Ln := by omega
    refine Z.blk (pc' := 30) (L' := [some (.ref bS), some (.ref b), some (.ref o), some (.ref q), some (.int (nI (4 * j))), none, none]) (st' := [.ref bS, .int (nI (4 * j))]) (sg := [(.iload 4, 0), (.aload_n 0, 0)]) (by decide +kernel) rfl ?_
    refine Z.slen hX (by decide +kernel) ?_
    refine Z.blk (pc' := 33) (L' := [some (.ref bS), some (.ref b), some (.ref o), some (.ref q), some (.int (nI (4 * j))), none, none]) (st' := [.int (nI Ln - nI 4), .int (nI (4 * j))]) (sg := [(.iconst 4, nI 4), (.isub, 0)]) (by decide +kernel) rfl ?_
    refine Z.ic_gt (off := 2089) (tgt := 2122) (by decide +kernel) (by decide) (fun _ => law_end) (fun _ => ?_)
    refine Z.blk (pc' := 39) (L' := [some (.ref bS), some (.ref b), some (.ref o), some (.ref q), some (.int (nI (4 * j))), none, none]) (st' := [.int (nI (4 * j)), .ref bS]) (sg := [(.aload_n 0, 0), (.iload 4, 0)]) (by decide +kernel) rfl ?_
    refine Z.sald hX (vp_in_nI (by omega) (by omega)) (by decide +kernel) ?_
    refine Z.blk (pc' := 43) (L' := [some (.ref bS), some (.ref b), some (.ref o), some (.ref q), some (.int (nI (4 * j))), none, none]) (st' := [.int (xs (nI (4 * j)).toNatClampNeg &&& nI 63)]) (sg := [(.bipush 63, nI 63), (.iand, 0)]) (by decide +kernel) rfl ?_
    obtain ⟨k, hk, ek⟩ := and63 (xs (nI (4 * j)).toNatClampNeg)
    rw [ek]
    refine Z.room (mc' := r * 409 + 400 + 9) (ms' := r * 12846 + 12000 + 846) (Nat.le_refl _) (by omega) (by omega) ?_
    refine law_case hV hN (nI (4 * j)) hX (by rw [nI_add]; exact vp_in_nI (by omega) (by omega)) (by rw [nI_add]; exact vp_in_nI (by omega) (by omega)) (by rw [nI_add]; exact vp_in_nI (by omega) (by omega)) (by omega) hJ (fun m' G' hm' hJ' => ?_) k hk
    refine Z.blk (pc' := 2119) (L' := [some (.ref bS), some (.ref b), some (.ref o), some (.ref q), some (.int (nI (4 * j) + nI 4)), none, none]) (st' := []) (sg := [(.iinc 4 4, nI 4)]) (by decide +kernel) rfl ?_
    refine Z.goto (off := -2092) (tgt := 27) (by decide +kernel) (by decide) ?_
    rw [nI_add]
    exact ih (j + 1) m' G' (by omega) (by omega) hJ'

