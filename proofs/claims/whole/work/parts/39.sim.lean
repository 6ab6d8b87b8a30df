-- both sides at once
section Rel
theorem q_EndC {a a' : Nat → List (Nat × Nat × Nat)} {S : mP × mC × (Nat → Int32)} {c : Nat} : (mEndC (a, S) c).2 = (mEndC (a', S) c).2 := rfl
def qRel (A B : mS) : Prop := A.2 = B.2
theorem qRel.endC {A B : mS} (h : qRel A B) (c : Nat) : qRel (mEndC A c) (mEndC B c) := by
  obtain ⟨a, s⟩ := A
  obtain ⟨b, t⟩ := B
  cases (show s = t from h)
  rfl
theorem qRel.ecst {A B : mS} (h : qRel A B) (p c : Nat) : qRel (mECst p A c) (mECst p B c) := by
  have e : A.2.2.1 c = B.2.2.1 c := by rw [show A.2 = B.2 from h]
  unfold mECst
  rw [e]
  cases B.2.2.1 c with
  | none => exact h
  | some x =>
    simp only
    split
    · exact h.endC c
    · exact h
theorem qRel.ecsts {p : Nat} : ∀ (l : List Nat) {A B : mS}, qRel A B → qRel (l.foldl (mECst p) A) (l.foldl (mECst p) B)
  | [], _, _, h => h
  | c :: l, _, _, h => qRel.ecsts l (h.ecst p c)
theorem qRel.epz {A B : mS} (h : qRel A B) (p : Nat) : qRel (mEPz p A) (mEPz p B) := by
  obtain ⟨a, s⟩ := A
  obtain ⟨b, t⟩ := B
  cases (show s = t from h)
  rfl
def qRel2 (s t : mS × Nat) : Prop := qRel s.1 t.1 ∧ s.2 = t.2
theorem qRel.eps {r : mS → Nat → mS × Nat} (hr : ∀ A B q, qRel A B → qRel2 (r A q) (r B q)) {p : Nat} : ∀ (l : List Nat) {s t : mS × Nat}, qRel2 s t → qRel2 (l.foldl (mEPst r p) s) (l.foldl (mEPst r p) t)
  | [], _, _, h => h
  | q :: l, s, t, h => by
    refine qRel.eps hr l ?_
    have e : s.1.2.1 q = t.1.2.1 q := by rw [show s.1.2 = t.1.2 from h.1]
    unfold mEPst
    rw [e]
    cases t.1.2.1 q with
    | none => exact h
    | some x =>
      simp only
      split
      · have := hr s.1 t.1 q h.1
        exact ⟨this.1, by show s.2 + _ = t.2 + _; rw [h.2, this.2]⟩
      · exact h
theorem qRel.ep : ∀ (d : Nat) (A B : mS) (p : Nat), qRel A B → qRel2 (mEP d A p) (mEP d B p)
  | 0, _, _, _, h => ⟨h, rfl⟩
  | d + 1, A, B, p, h => by
    have h1 := qRel.eps (qRel.ep d) (p := p) (List.range' 2 4) (s := (A, 1)) (t := (B, 1)) ⟨h, rfl⟩
    exact ⟨(qRel.ecsts (List.range' 0 3) h1.1).epz p, h1.2⟩
theorem qRel.es {r exc : Nat} : ∀ (l : List Nat) {s t : mS × Nat}, qRel2 s t → qRel2 (l.foldl (mESt r exc) s) (l.foldl (mESt r exc) t)
  | [], _, _, h => h
  | q :: l, s, t, h => by
    refine qRel.es l ?_
    have e : s.1.2.1 = t.1.2.1 := by rw [show s.1.2 = t.1.2 from h.1]
    unfold mESt
    rw [e]
    cases t.1.2.1 q with
    | none => exact h
    | some x =>
      simp only
      split
      · have := qRel.ep zDp s.1 t.1 q h.1
        exact ⟨this.1, by show s.2 + _ = t.2 + _; rw [h.2, this.2]⟩
      · exact h
theorem qRel.eS {A B : mS} (h : qRel A B) (r exc : Nat) : qRel2 (mES A r exc) (mES B r exc) := qRel.es _ ⟨h, rfl⟩
theorem qRel.ecr {r : Nat} : ∀ (l : List Nat) {A B : mS}, qRel A B → qRel (l.foldl (mECr r) A) (l.foldl (mECr r) B)
  | [], _, _, h => h
  | c :: l, A, B, h => by
    refine qRel.ecr l ?_
    have e : A.2.2.1 c = B.2.2.1 c := by rw [show A.2 = B.2 from h]
    have e2 : A.2.1 = B.2.1 := by rw [show A.2 = B.2 from h]
    unfold mECr
    rw [e, e2]
    cases B.2.2.1 c with
    | none => exact h
    | some x =>
      simp only
      split
      · exact h.endC c
      · exact h
theorem qRel.around {A B : mS} (h : qRel A B) (r p : Nat) : qRel (mAround A r p) (mAround B r p) := qRel.ecr _ (h.eS r p).1
theorem qRel.cc {r : Nat} {exc : Int32} : ∀ (l : List Nat) {A B : mS}, qRel A B → qRel (l.foldl (mCC r exc) A) (l.foldl (mCC r exc) B)
  | [], _, _, h => h
  | c :: l, A, B, h => by
    refine qRel.cc l ?_
    obtain ⟨a, s⟩ := A
    obtain ⟨b, t⟩ := B
    cases (show s = t from h)
    show (mCC r exc (a, s) c).2 = (mCC r exc (b, s) c).2
    unfold mCC
    split
    · rfl
    · show (match s.2.1 c with
        | some x => if mRo s.1 x.1 = r then (if x.1 < 2 then (a, s.1, va_up s.2.1 c (some (x.1, x.2.1, x.2.2.1, nI 1)), s.2.2) else mEndC (a, s) c) else (a, s)
        | none => (a, s)).2 = (match s.2.1 c with
        | some x => if mRo s.1 x.1 = r then (if x.1 < 2 then (b, s.1, va_up s.2.1 c (some (x.1, x.2.1, x.2.2.1, nI 1)), s.2.2) else mEndC (b, s) c) else (b, s)
        | none => (b, s)).2
      cases s.2.1 c with
      | none => rfl
      | some x =>
        simp only
        split
        · split <;> rfl
        · rfl
theorem qRel.chl {z : Int} : ∀ (d : Nat) {A B : mS} (p : Nat), qRel A B → qRel (mChL z d A p) (mChL z d B p)
  | 0, _, _, _, h => h
  | d + 1, A, B, p, h => by
    obtain ⟨a, s⟩ := A
    obtain ⟨b, t⟩ := B
    cases (show s = t from h)
    unfold mChL
    split
    · rfl
    · show qRel (match s.1 p with
        | none => (a, s)
        | some x => mChL z d (a, va_up s.1 p (some (x.1, x.2.1, ((x.2.2 : Int) + z).toNat)), s.2.1, s.2.2) x.1) (match s.1 p with
        | none => (b, s)
        | some x => mChL z d (b, va_up s.1 p (some (x.1, x.2.1, ((x.2.2 : Int) + z).toNat)), s.2.1, s.2.2) x.1)
      cases s.1 p with
      | none => rfl
      | some x => exact qRel.chl d x.1 rfl
theorem qRel.change {A B : mS} (h : qRel A B) (p : Nat) (z : Int) (exc : Int32) : qRel (mChange A p z exc) (mChange B p z exc) := by
  have e2 : A.2.1 = B.2.1 := by rw [show A.2 = B.2 from h]
  unfold mChange
  rw [e2]
  split
  · exact h
  · exact ((qRel.cc _ (qRel.chl zDp p h)).eS _ p).1
theorem mEnds_1 {A A' : mS} {n : Nat} (h : mEnds A A' n) : A'.1 = A.1 := h.1
end Rel
theorem CRepx.cong {exc : Int32} {σ : cS} {A B : mS} (h : CRepx exc σ A) (h1 : ∀ r, r < 2 → (A.1 r).map Prod.snd = (B.1 r).map Prod.snd) (h2 : qRel A B) : CRepx exc σ B := by
  obtain ⟨t1, t2, t3⟩ := h
  refine ⟨fun r i t hr ht => ?_, fun r hr => ?_, ?_⟩
  · have e := congrArg (fun l => l[i]?) (h1 r hr)
    simp only [List.getElem?_map, ht] at e
    cases hx : (A.1 r)[i]? with
    | none => rw [hx] at e; cases e
    | some u =>
      rw [hx] at e
      have e1 : u.2 = t.2 := Option.some.inj e
      rw [t1 r i u hr hx]
      exact cE_sn e1
  · have e := congrArg List.length (h1 r hr)
    rw [List.length_map, List.length_map] at e
    rw [t2 r hr, e]
  · unfold cRx at t3 ⊢
    rw [show A.2 = B.2 from h2] at t3
    exact t3
def xIAS : Nat × (Nat → String) := (3, fun c => if c = 1 then "java/lang/IndexOutOfBoundsException" else if c = 2 then "java/lang/IllegalArgumentException" else "java/lang/IllegalStateException")
def xIS : Nat × (Nat → String) := (2, fun c => if c = 1 then "java/lang/IndexOutOfBoundsException" else "java/lang/IllegalStateException")
def xIG : Nat × (Nat → String) := (2, fun c => if c = 1 then "java/lang/IndexOutOfBoundsException" else "java/lang/IllegalArgumentException")
def xI1 : Nat × (Nat → String) := (1, fun _ => "java/lang/IndexOutOfBoundsException")
def xA1 : Nat × (Nat → String) := (1, fun _ => "java/lang/IllegalArgumentException")
def oI (E : Nat × (Nat → String)) (c : Nat) (a : Int32) (G : gH) : gR := if c = 0 then rI a G else gThrow (E.2 c) G
/-- a call of the class and of the reference: the same refusal, the same answer, the same state -/
def SimOp (w : Nat → Nat) (b o : Nat) (A : mS) (m : Nat) (σ : cS) (H : gH) (E : Nat × (Nat → String)) (F : gR) (R : gH → gR) : Prop :=
  ∃ (c : Nat) (a : Int32) (σ' : cS), c ≤ E.1 ∧ F = oI E c a (cPut b σ' H) ∧
    ∀ (G : gH) (D : mD), MS w o G A D → ∃ (A' : mS) (D' : mD) (G' : gH) (m' : Nat), R G = rI (if c = 0 then a else 0) G' ∧ MS w o G' A' D' ∧ CRep σ' A' ∧ mInv m' A' ∧ m' ≤ m + 1 ∧ A'.2.2.2 0 = nI c ∧ mSt 400 12000 G G'
section Sim
variable {w : Nat → Nat} {b o m : Nat} {A : mS} {σ : cS} {H : gH} {E : Nat × (Nat → String)} {F : gR} {R : gH → gR}
theorem Sim.no (hR : CRep σ A) (hI : mInv m A) (c : Nat) (hc : 0 < c) (hc3 : c ≤ E.1) (hF : F = gThrow (E.2 c) (cPut b σ H)) (hM : ∀ (G : gH) (D : mD), MS w o G A D → ∃ G', R G = rI 0 G' ∧ MS w o G' (mSet A 0 (nI c)) D ∧ mSt 0 0 G G') : SimOp w b o A m σ H E F R := by
  refine ⟨c, 0, σ, hc3, ?_, fun G D h => ?_⟩
  · unfold oI
    rw [if_neg (by omega)]; exact hF
  · obtain ⟨G', a1, a2, a3⟩ := hM G D h
    refine ⟨mSet A 0 (nI c), D, G', m, ?_, a2, hR, hI, by omega, rfl, a3.mono (by omega) (by omega)⟩
    rw [if_neg (by omega)]; exact a1
theorem Sim.yes (a : Int32) (σ' : cS) (hF : F = rI a (cPut b σ' H)) (hM : ∀ (G : gH) (D : mD), MS w o G A D → ∃ (A' : mS) (D' : mD) (G' : gH) (m' : Nat), R G = rI a G' ∧ MS w o G' A' D' ∧ CRep σ' A' ∧ mInv m' A' ∧ m' ≤ m + 1 ∧ A'.2.2.2 0 = 0 ∧ mSt 400 12000 G G') : SimOp w b o A m σ H E F R := by
  refine ⟨0, a, σ', Nat.zero_le _, ?_, fun G D h => ?_⟩
  · unfold oI
    rw [if_pos rfl]; exact hF
  · obtain ⟨A', D', G', m', z⟩ := hM G D h
    exact ⟨A', D', G', m', z⟩
end Sim
section Pre
variable {w : Nat → Nat} {G : gH} {o : Nat} {A : mS} {D : mD}
theorem r_list1 (h : MS w o G A D) {x : Int32} (hx : mIsL A x) : ∃ G', (∀ X Y : gH → gR, (gOb G o 6 fun o2 => bI (f_M_isNoList G o x) fun v5 G4 => gOb G4 o 6 fun o7 => bI (f_M_start G4 o v5 (nI 1)) fun v10 G9 => if v10 = 0 then X G9 else Y G9) = X G') ∧ MS w o G' (mSet A 0 0) D ∧ mSt 0 0 G G' := by
  obtain ⟨G', a1, a2, a3⟩ := s_start0 h (nI 1)
  refine ⟨G', fun X Y => ?_, a2, a3⟩
  rw [gOb_of h.2.2.1 rfl, (s_noList h x).1 hx, bI_rI, gOb_of h.2.2.1 rfl, a1, bI_rI, if_pos rfl]
theorem r_list0 (h : MS w o G A D) {x : Int32} (hx : ¬ mIsL A x) : ∃ G', (∀ X Y : gH → gR, (gOb G o 6 fun o2 => bI (f_M_isNoList G o x) fun v5 G4 => gOb G4 o 6 fun o7 => bI (f_M_start G4 o v5 (nI 1)) fun v10 G9 => if v10 = 0 then X G9 else Y G9) = Y G') ∧ MS w o G' (mSet A 0 (nI 1)) D ∧ mSt 0 0 G G' := by
  obtain ⟨G', a1, a2, a3⟩ := s_start1 h (code := nI 1) (by decide)
  refine ⟨G', fun X Y => ?_, a2, a3⟩
  rw [gOb_of h.2.2.1 rfl, (s_noList h x).2 hx, bI_rI, gOb_of h.2.2.1 rfl, a1, bI_rI, if_neg (by decide)]
theorem r_cur1 (h : MS w o G A D) {x : Int32} (hx : mIsC A x) : ∃ G', (∀ X Y : gH → gR, (gOb G o 6 fun o2 => bI (f_M_isNoCursor G o x) fun v5 G4 => gOb G4 o 6 fun o7 => bI (f_M_start G4 o v5 (nI 1)) fun v10 G9 => if v10 = 0 then X G9 else Y G9) = X G') ∧ MS w o G' (mSet A 0 0) D ∧ mSt 0 0 G G' := by
  obtain ⟨G', a1, a2, a3⟩ := s_start0 h (nI 1)
  refine ⟨G', fun X Y => ?_, a2, a3⟩
  rw [gOb_of h.2.2.1 rfl, (s_noCursor h x).1 hx, bI_rI, gOb_of h.2.2.1 rfl, a1, bI_rI, if_pos rfl]
theorem r_cur0 (h : MS w o G A D) {x : Int32} (hx : ¬ mIsC A x) : ∃ G', (∀ X Y : gH → gR, (gOb G o 6 fun o2 => bI (f_M_isNoCursor G o x) fun v5 G4 => gOb G4 o 6 fun o7 => bI (f_M_start G4 o v5 (nI 1)) fun v10 G9 => if v10 = 0 then X G9 else Y G9) = Y G') ∧ MS w o G' (mSet A 0 (nI 1)) D ∧ mSt 0 0 G G' := by
  obtain ⟨G', a1, a2, a3⟩ := s_start1 h (code := nI 1) (by decide)
  refine ⟨G', fun X Y => ?_, a2, a3⟩
  rw [gOb_of h.2.2.1 rfl, (s_noCursor h x).2 hx, bI_rI, gOb_of h.2.2.1 rfl, a1, bI_rI, if_neg (by decide)]
theorem r_ref0 (h : MS w o G A D) (h0 : A.2.2.2 0 = 0) {code : Int32} : ∀ X Y : gH → gR, (gOb G o 6 fun o2 => bI (f_M_refuse G o (nI 0) code) fun v10 G9 => if v10 = 0 then X G9 else Y G9) = X G := by
  intro X Y
  have e : nI 0 = (0 : Int32) := rfl
  rw [gOb_of h.2.2.1 rfl, e, s_refuse0 h code h0, bI_rI, if_pos rfl]
theorem r_ref0b (h : MS w o G A D) (h0 : A.2.2.2 0 = 0) {code : Int32} : ∀ X Y : gH → gR, (gOb G o 6 fun o2 => bI (f_M_refuse G o 0 code) fun v10 G9 => if v10 = 0 then X G9 else Y G9) = X G := by
  intro X Y
  rw [gOb_of h.2.2.1 rfl, s_refuse0 h code h0, bI_rI, if_pos rfl]
theorem r_ref1 (h : MS w o G A D) (h0 : A.2.2.2 0 = 0) {code : Int32} (hc : ¬ code ≤ 0) : ∃ G', (∀ X Y : gH → gR, (gOb G o 6 fun o2 => bI (f_M_refuse G o (nI 1) code) fun v10 G9 => if v10 = 0 then X G9 else Y G9) = Y G') ∧ MS w o G' (mSet A 0 code) D ∧ mSt 0 0 G G' := by
  obtain ⟨G', a1, a2, a3⟩ := s_refuse1 h hc h0
  refine ⟨G', fun X Y => ?_, a2, a3⟩
  have e : nI 1 = (1 : Int32) := rfl
  rw [gOb_of h.2.2.1 rfl, e, a1, bI_rI, if_neg (by decide)]
theorem r_ref1b (h : MS w o G A D) (h0 : A.2.2.2 0 = 0) {code : Int32} (hc : ¬ code ≤ 0) : ∃ G', (∀ X Y : gH → gR, (gOb G o 6 fun o2 => bI (f_M_refuse G o 1 code) fun v10 G9 => if v10 = 0 then X G9 else Y G9) = Y G') ∧ MS w o G' (mSet A 0 code) D ∧ mSt 0 0 G G' := by
  obtain ⟨G', a1, a2, a3⟩ := s_refuse1 h hc h0
  refine ⟨G', fun X Y => ?_, a2, a3⟩
  rw [gOb_of h.2.2.1 rfl, a1, bI_rI, if_neg (by decide)]
theorem s_inK (G : gH) (x : Int32) : (mIsP 31 x → f_M_isIn G x (nI 0) (nI 30) = rI 1 G) ∧ (¬ mIsP 31 x → f_M_isIn G x (nI 0) (nI 30) = rI 0 G) := by
  obtain ⟨i1, i2⟩ := s_isIn G 30 (by omega) x
  have e : mIsG 30 x ↔ mIsP 31 x := ⟨fun ⟨i, hi, e⟩ => ⟨i, by omega, e⟩, fun ⟨i, hi, e⟩ => ⟨i, by omega, e⟩⟩
  exact ⟨fun k => i1 (e.mpr k), fun k => i2 (fun q => k (e.mp q))⟩
theorem s_noKey (G : gH) (o : Nat) (x : Int32) : (mIsP 31 x → f_M_isNoKey G o x = rI 0 G) ∧ (¬ mIsP 31 x → f_M_isNoKey G o x = rI 1 G) := by
  obtain ⟨i1, i2⟩ := s_inK G x
  unfold f_M_isNoKey
  refine ⟨fun k => ?_, fun k => ?_⟩
  · rw [i1 k, bI_rI, if_neg (by decide)]; exact rZ_0
  · rw [i2 k, bI_rI, if_pos rfl]; exact rZ_1
theorem s_noPlace (h : MS w o G A D) (hok : mOk A.2.1) {p : Nat} (hv : mV A p) (hl : mLen A p < 100) (x : Int32) : (mIsP (mLen A p) x → f_M_isNoPlace G o (nI p) x = rI 0 G) ∧ (¬ mIsP (mLen A p) x → f_M_isNoPlace G o (nI p) x = rI 1 G) := by
  unfold f_M_isNoPlace
  rw [gOb_of h.2.2.1 rfl, s_len h hok hv, bI_rI]
  by_cases hz : mLen A p = 0
  · have e : f_M_isIn G x (nI 0) (nI (mLen A p) - nI 1) = rI 0 G := by
      rw [hz]
      unfold f_M_isIn
      by_cases h1 : x < nI 0
      · rw [if_pos h1]; exact rZ_0
      · rw [if_neg h1, if_pos]
        · exact rZ_0
        · rw [show nI 0 - nI 1 = (-1 : Int32) by decide]
          exact Int32.lt_of_lt_of_le (by decide : (-1 : Int32) < nI 0) (Int32.not_lt.mp h1)
    refine ⟨fun k => ?_, fun _ => ?_⟩
    · obtain ⟨i, hi, -⟩ := k
      omega
    · rw [e, bI_rI, if_pos rfl]; exact rZ_1
  · obtain ⟨i1, i2⟩ := s_isIn G (mLen A p - 1) (by omega) x
    have e : mIsG (mLen A p - 1) x ↔ mIsP (mLen A p) x := ⟨fun ⟨i, hi, e⟩ => ⟨i, by omega, e⟩, fun ⟨i, hi, e⟩ => ⟨i, by omega, e⟩⟩
    rw [nI_sub (by omega)]
    refine ⟨fun k => ?_, fun k => ?_⟩
    · rw [i1 (e.mpr k), bI_rI, if_neg (by decide)]; exact rZ_0
    · rw [i2 (fun q => k (e.mp q)), bI_rI, if_pos rfl]; exact rZ_1
theorem s_isFull (h : MS w o G A D) (hok : mOk A.2.1) {p r s n : Nat} (hv : mV A p) (hr : mRw A.2.1 zDp p = some (r, s)) (hn : n < 100) : ((A.1 r).length + n ≤ 31 → f_M_isFull G o (nI p) (nI n) = rI 0 G) ∧ (31 < (A.1 r).length + n → f_M_isFull G o (nI p) (nI n) = rI 1 G) := by
  have e := m_isFull h.2.2 (hv.lt hok) hr hn
  refine ⟨fun k => ?_, fun k => ?_⟩
  · rw [e, decide_eq_false (by omega)]; exact rZ_0
  · rw [e, decide_eq_true k]; exact rZ_1
end Pre
