/-! What the claim's premises give of the start. -/
theorem len_x {args : Array Value} {s : State} {t : Term} {N : Nat} (hN : N < 2 ^ 31) (h : (Term.length t).eval args s none [] s = some (.int (Int32.ofNat N))) : ∃ (a : Nat) (cell : Cell), t.eval args s none [] s = some (.ref a) ∧ s.heap[a]? = some cell ∧ cell.vm ≠ .unknown ∧ cell.slots.size = N := by
  simp only [Term.eval, Option.bind_eq_bind] at h
  cases ht : t.eval args s none [] s with
  | none => simp [ht] at h
  | some x =>
    cases x <;> simp [ht] at h
    case ref a =>
      obtain ⟨cell, hcell, h⟩ := Option.bind_eq_some_iff.mp h
      by_cases hn : cell.slots.size < 2147483648
      · rw [if_pos hn] at h
        obtain ⟨hc, hkn, -, -⟩ := State.arrayAt?_spec hcell
        refine ⟨a, cell, rfl, hc, hkn, ?_⟩
        have e : cell.slots.size.toInt32 = Int32.ofNat N := Value.int.inj (Option.some.inj h)
        have e1 := congrArg Int32.toNatClampNeg e
        rw [Int32.toNatClampNeg_ofNat_of_lt hN, show cell.slots.size.toInt32 = Int32.ofNat cell.slots.size from rfl, Int32.toNatClampNeg_ofNat_of_lt (by omega)] at e1
        exact e1
      · rw [if_neg hn] at h; cases h
theorem elem_x {args : Array Value} {s : State} {t : Term} {a j : Nat} {cell : Cell} {v : Value} (ht : t.eval args s none [] s = some (.ref a)) (hc : s.heap[a]? = some cell) (hj : j < 2 ^ 31) (h : (Term.elem t (.int (Int32.ofNat j))).eval args s none [] s = some v) : cell.slots[j]? = some v := by
  obtain ⟨a2, i, cell2, h1, h2, h3, h4, h5⟩ := Term.elem_spec h
  cases ht.symm.trans h1
  obtain ⟨hc2, -, -, -⟩ := State.arrayAt?_spec h3
  cases hc.symm.trans hc2
  have hi : i = Int32.ofNat j := by
    have e : (Term.int (Int32.ofNat j)).eval args s none [] s = some (.int (Int32.ofNat j)) := rfl
    cases h2.symm.trans e
    rfl
  rw [hi, Int32.toNatClampNeg_ofNat_of_lt hj] at h5
  exact h5
/-- a byte array that a term names: its ints -/
def bArr (s : State) (a N : Nat) : Prop := ∃ cell : Cell, s.heap[a]? = some cell ∧ s.vm.findClass "[B" = some cell.cls ∧ cell.vm ≠ .unknown ∧ cell.vm.isStatics = false ∧ cell.slots.size = N ∧ ∀ j, j < N → ∃ x : Int32, cell.slots[j]? = some (.int x) ∧ fits .byte (.int x) = true
theorem bArr_of {args : Array Value} {s : State} {t : Term} {N : Nat} {tab : List Int32} (hN : N < 2 ^ 31) (h1 : (Cond.exactly t "[B").before args s = true) (h2 : (Cond.eq (.length t) (.int (Int32.ofNat N))).before args s = true) (h3 : ∀ j, j < N → (Cond.eq (.elem t (.int (Int32.ofNat j))) (.int (tab.getD j 0))).before args s = true) (h4 : ∀ j, j < N → fits .byte (.int (tab.getD j 0)) = true) :
    ∃ a : Nat, t.eval args s none [] s = some (.ref a) ∧ bArr s a N := by
  obtain ⟨a, cell, q1, q2, q3, q4⟩ := len_x hN (va_eqt h2)
  obtain ⟨a2, c, cA, kA, r1, r2, r3, r4, r5, r6, -⟩ := Cond.exactly_spec (args := args) (first := s) (o := none) (s := s) (idx := []) (t := t) (cls := "[B") h1
  cases q1.symm.trans r1
  cases q2.symm.trans r3
  exact ⟨a, q1, cell, q2, by rw [r6]; exact r2, q3, r5, q4, fun j hj => ⟨_, elem_x q1 q2 (by omega) (va_eqt (h3 j hj)), h4 j hj⟩⟩
/-- a string constant of byte length n at a, its array at e -/
def sStr (s : State) (a e n : Nat) : Prop := va_O "java/lang/String" a (fun q => s.heap.size ≤ q) s s.heap ∧ va_OF "java/lang/String" "coder" "B" (.int 0) a (fun q => s.heap.size ≤ q) s s.heap ∧ va_OF "java/lang/String" "value" "[B" (.ref e) a (fun q => s.heap.size ≤ q) s s.heap ∧ bArr s e n
theorem sStr_of {args : Array Value} {s : State} {t : Term} {N : Nat} {tab : List Int32} (hN : N < 2 ^ 31) (h0 : (Cond.exactly t "java/lang/String").before args s = true) (hc : (Cond.eq (.field t "java/lang/String" "coder" "B") (.int 0)).before args s = true) (h1 : (Cond.exactly (.field t "java/lang/String" "value" "[B") "[B").before args s = true) (h2 : (Cond.eq (.length (.field t "java/lang/String" "value" "[B")) (.int (Int32.ofNat N))).before args s = true) (h3 : ∀ j, j < N → (Cond.eq (.elem (.field t "java/lang/String" "value" "[B") (.int (Int32.ofNat j))) (.int (tab.getD j 0))).before args s = true) (h4 : ∀ j, j < N → fits .byte (.int (tab.getD j 0)) = true) :
    ∃ a e : Nat, t.eval args s none [] s = some (.ref a) ∧ sStr s a e N := by
  obtain ⟨a, c, cA, kA, r1, r2, r3, r4, r5, r6, -⟩ := Cond.exactly_spec (args := args) (first := s) (o := none) (s := s) (idx := []) (t := t) (cls := "java/lang/String") h0
  obtain ⟨e, g1, g2⟩ := bArr_of hN h1 h2 h3 h4
  have hA : ∀ a : Nat, a < s.heap.size → ¬ (fun q => s.heap.size ≤ q) a := fun a h => Nat.not_le.mpr h
  exact ⟨a, e, r1, ⟨cA, r3, r5, by rw [r6]; exact r2, hA a (Array.getElem?_eq_some_iff.mp r3).1⟩, vk_OFof r1 (va_eqt hc) hA, vk_OFof r1 g1 hA, g2⟩
/-- what is told of the old cells -/
def lO (B bS Ln : Nat) (xs : Nat → Int32) (w : Nat → Nat) (U : State) (H : Heap) : Prop :=
  (vx_Zq Bundle.tN "UNASSIGNED_STACK" Bundle.steD (fun q => B ≤ q) U H ∧ vx_Zq Bundle.tN "SUPPRESSED_SENTINEL" Bundle.listD (fun q => B ≤ q) U H ∧ ∀ own k tx, (own, k, tx) ∈ zStr → ∃ sa : Nat, vk_R own k tx sa U) ∧
  (va_Z "java/util/ArrayList" "DEFAULTCAPACITY_EMPTY_ELEMENTDATA" "[Ljava/lang/Object;" (.ref (w 0)) (fun q => B ≤ q) U H ∧ va_Z "java/lang/Integer" "DigitOnes" "[B" (.ref (w 1)) (fun q => B ≤ q) U H ∧ va_Z "java/lang/Integer" "DigitTens" "[B" (.ref (w 2)) (fun q => B ≤ q) U H ∧ va_Z "java/lang/String" "COMPACT_STRINGS" "Z" (.int (nI 1)) (fun q => B ≤ q) U H ∧
    vk_R "PartlisterModel" 265 "," (w 3) U ∧ vk_R "PartlisterModel" 263 "" (w 5) U ∧ vk_R "PartlisterModel" 277 "-" (w 7) U ∧ vk_R "Partlister" 220 "-" (w 9) U ∧ va_Mi "[Ljava/lang/Object;" (w 11) U) ∧
  (va_Nc "java/lang/IllegalArgumentException" "java/lang/IndexOutOfBoundsException" U ∧ va_Nc "java/lang/IllegalStateException" "java/lang/IndexOutOfBoundsException" U ∧ va_Nc "java/lang/IllegalStateException" "java/lang/IllegalArgumentException" U) ∧
  va_X bS Ln xs U H ∧ bS < B
theorem lO_ok {l : Launch} {D : va_G} {B bS Ln : Nat} {xs : Nat → Int32} {w : Nat → Nat} (hl : l.stackTraces = false) : zOk (zVm l D B (lO B bS Ln xs w)) := by
  refine ⟨hl, fun u U H hv h => ?_, fun u U H H1 hW hk hz h => ?_⟩
  · have hA : u.vm.Alike U.vm := by rw [hv]; exact Vm.Alike.refl _
    obtain ⟨⟨a1, a2, a3⟩, ⟨b0, b1, b2, b3, b4, b5, b6, b7, b8⟩, ⟨c1, c2, c3⟩, d1, d2⟩ := h
    exact ⟨⟨a1.moved hA, a2.moved hA, fun o k t ht => (a3 o k t ht).imp fun sa q => q.same hv.symm⟩, ⟨b0.moved hA, b1.moved hA, b2.moved hA, b3.moved hA, b4.same hv.symm, b5.same hv.symm, b6.same hv.symm, b7.same hv.symm, b8.moved hA⟩, ⟨c1.moved hA, c2.moved hA, c3.moved hA⟩, d1.moved hA, d2⟩
  · have hA : u.vm.Alike U.vm := hW.alike
    have hk' : ∀ a : Nat, a < H.size → ¬ (fun q => B ≤ q) a → H1[a]? = H[a]? := hk
    obtain ⟨⟨a1, a2, a3⟩, ⟨b0, b1, b2, b3, b4, b5, b6, b7, b8⟩, ⟨c1, c2, c3⟩, d1, d2⟩ := h
    have hb : bS < H.size := by
      obtain ⟨scr, h1, -⟩ := d1
      exact (Array.getElem?_eq_some_iff.mp h1).1
    exact ⟨⟨(a1.moved hA).kept hk', (a2.moved hA).kept hk', fun o k t ht => (a3 o k t ht).imp fun sa q => q.warm hW⟩, ⟨(b0.moved hA).kept hk', (b1.moved hA).kept hk', (b2.moved hA).kept hk', (b3.moved hA).kept hk', b4.warm hW, b5.warm hW, b6.warm hW, b7.warm hW, b8.moved hA⟩, ⟨c1.moved hA, c2.moved hA, c3.moved hA⟩, (d1.moved hA).kept (hk' bS hb (Nat.not_le.mpr d2)), d2⟩
theorem lO_gw {l : Launch} {D : va_G} {B bS Ln : Nat} {xs : Nat → Int32} {w : Nat → Nat} (hl : l.stackTraces = false) : zGw l D B (lO B bS Ln xs w) w := by
  refine ⟨⟨lO_ok hl, fun own k tx ht U H h => ⟨h.1.1, h.1.2.1, h.1.2.2 own k tx ht⟩⟩, fun U H h => h.2.1⟩
theorem lO_no {B bS Ln : Nat} {xs : Nat → Int32} {w : Nat → Nat} : zNo (lO B bS Ln xs w) := fun U H h => h.2.2.1
theorem lO_sc {B bS Ln : Nat} {xs : Nat → Int32} {w : Nat → Nat} (h : bS < B) : zSc (lO B bS Ln xs w) B bS Ln xs := ⟨fun U H h => h.2.2.2.1, h⟩
