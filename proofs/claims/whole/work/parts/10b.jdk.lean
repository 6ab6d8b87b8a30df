def gElt (G : gH) (y : Nat) : Bool := match G.2.2 y with
  | some (.inr (c, _)) => c % 1000 == 9
  | some (.inl (c, _)) => c % 1000 == 100
  | none => false
def gEltO (G : gH) (y : Option Nat) : Bool := match y with
  | none => true
  | some y => gElt G y
def gBnd (sp dp n : Int32) (n0 n1 : Nat) : Bool := decide (¬ sp < 0) && decide (¬ dp < 0) && decide (¬ n < 0) && decide (sp.toNatClampNeg + n.toNatClampNeg ≤ n0) && decide (dp.toNatClampNeg + n.toNatClampNeg ≤ n1)
theorem gBnd_of {sp dp n : Int32} {n0 n1 : Nat} (h : gBnd sp dp n n0 n1 = true) : ¬ sp < 0 ∧ ¬ dp < 0 ∧ ¬ n < 0 ∧ sp.toNatClampNeg + n.toNatClampNeg ≤ n0 ∧ dp.toNatClampNeg + n.toNatClampNeg ≤ n1 := by
  simp only [gBnd, Bool.and_eq_true, decide_eq_true_eq] at h
  exact ⟨h.1.1.1.1, h.1.1.1.2, h.1.1.2, h.1.2, h.2⟩
def gCpB (G : gH) (a0 : Nat) (sp : Int32) (a1 : Nat) (dp n : Int32) (k : gH → gR) : gR := gAr G a0 101 fun n0 f => gArW G a1 101 fun n1 g =>
  if gBnd sp dp n n0 n1 = true ∧ ((List.range n.toNatClampNeg).all fun i => fits .byte (.int (f (sp.toNatClampNeg + i)))) = true then k (gUp G a1 (zI 101 n1 (va_cpy f g sp.toNatClampNeg dp.toNatClampNeg n.toNatClampNeg))) else none
def gCpQ (G : gH) (a0 : Nat) (sp : Int32) (a1 : Nat) (dp n : Int32) (k : gH → gR) : gR := gAq G a0 103 fun n0 f => gAqW G a1 103 fun n1 g =>
  if gBnd sp dp n n0 n1 = true ∧ ((List.range n.toNatClampNeg).all fun i => gEltO G (f (sp.toNatClampNeg + i))) = true then k (gUp G a1 (zQ 103 n1 (va_cpy f g sp.toNatClampNeg dp.toNatClampNeg n.toNatClampNeg))) else none
def gClB (G : gH) (a : Nat) (k : Nat → gH → gR) : gR := gArW G a 101 fun n f => if ((List.range n).all fun i => fits .byte (.int (f i))) = true then k G.2.1 (gNew G n (zI 101 n f)) else none
theorem Z.ac_eq {V : zV} {M : zM} {fr : Nat} {Q : Option Value → zH → Prop} {QX : String → zH → Prop} {mc ms pc : Nat} {L : zLs} {st : List Value} {G : zH} {x y : Nat} {off : Int} {tgt : Nat} (hd : decode M.2.1 pc = .ok (.if_acmp .eq off, 3)) (ht : (pc : Int) + off = (tgt : Int)) (ka : x = y → Z V M fr Q QX mc ms tgt L st G) (kb : ¬ x = y → Z V M fr Q QX mc ms (pc + 3) L st G) : Z V M fr Q QX mc ms pc L (.ref y :: .ref x :: st) G := by
  intro p e R s m args below meth c H locs cells slots CT ST ls C h1 h2 h3 h4 h5 h6 hS hR hl
  exact lv_acmp_eq (rx := some x) (ry := some y) C.1 C.2.1 hd ht (fun q => (ka (Option.some.inj q)) p e R s m args below meth c H locs cells slots CT ST ls C h1 h2 h3 h4 h5 h6 hS hR hl) (fun q => (kb (fun z => q (congrArg some z))) p e R s m args below meth c H locs cells slots CT ST ls C h1 h2 h3 h4 h5 h6 hS hR hl)
theorem Y.ac_eq {V : zV} {M : zM} {fr : Nat} {o : gO} {Gf : gH} {pc : Nat} {L : zLs} {st : List Value} {G : gH} {x y : Nat} {off : Int} {tgt : Nat} {A B : gR} (hd : decode M.2.1 pc = .ok (.if_acmp .eq off, 3)) (ht : (pc : Int) + off = (tgt : Int)) (h : (if x = y then A else B) = some (o, Gf)) (ka : x = y → A = some (o, Gf) → Y V M fr o Gf tgt L st G) (kb : ¬ x = y → B = some (o, Gf) → Y V M fr o Gf (pc + 3) L st G) : Y V M fr o Gf pc L (.ref y :: .ref x :: st) G := by
  by_cases hP : x = y
  · rw [if_pos hP] at h
    have k := ka hP h
    exact ⟨k.1, Z.ac_eq hd ht (fun _ => k.2) (fun q => absurd hP q)⟩
  · rw [if_neg hP] at h
    have k := kb hP h
    exact ⟨k.1, Z.ac_eq hd ht (fun q => absurd q hP) (fun _ => k.2)⟩
theorem Z.ac_ne {V : zV} {M : zM} {fr : Nat} {Q : Option Value → zH → Prop} {QX : String → zH → Prop} {mc ms pc : Nat} {L : zLs} {st : List Value} {G : zH} {x y : Nat} {off : Int} {tgt : Nat} (hd : decode M.2.1 pc = .ok (.if_acmp .ne off, 3)) (ht : (pc : Int) + off = (tgt : Int)) (ka : x = y → Z V M fr Q QX mc ms (pc + 3) L st G) (kb : ¬ x = y → Z V M fr Q QX mc ms tgt L st G) : Z V M fr Q QX mc ms pc L (.ref y :: .ref x :: st) G := by
  intro p e R s m args below meth c H locs cells slots CT ST ls C h1 h2 h3 h4 h5 h6 hS hR hl
  exact lv_acmp_ne (rx := some x) (ry := some y) C.1 C.2.1 hd ht (fun q => (kb (fun z => q (congrArg some z))) p e R s m args below meth c H locs cells slots CT ST ls C h1 h2 h3 h4 h5 h6 hS hR hl) (fun q => (ka (Option.some.inj q)) p e R s m args below meth c H locs cells slots CT ST ls C h1 h2 h3 h4 h5 h6 hS hR hl)
theorem Y.ac_ne {V : zV} {M : zM} {fr : Nat} {o : gO} {Gf : gH} {pc : Nat} {L : zLs} {st : List Value} {G : gH} {x y : Nat} {off : Int} {tgt : Nat} {A B : gR} (hd : decode M.2.1 pc = .ok (.if_acmp .ne off, 3)) (ht : (pc : Int) + off = (tgt : Int)) (h : (if x = y then A else B) = some (o, Gf)) (ka : x = y → A = some (o, Gf) → Y V M fr o Gf (pc + 3) L st G) (kb : ¬ x = y → B = some (o, Gf) → Y V M fr o Gf tgt L st G) : Y V M fr o Gf pc L (.ref y :: .ref x :: st) G := by
  by_cases hP : x = y
  · rw [if_pos hP] at h
    have k := ka hP h
    exact ⟨k.1, Z.ac_ne hd ht (fun _ => k.2) (fun q => absurd hP q)⟩
  · rw [if_neg hP] at h
    have k := kb hP h
    exact ⟨k.1, Z.ac_ne hd ht (fun q => absurd q hP) (fun _ => k.2)⟩
theorem Z.gets {V : zV} {M : zM} {fr : Nat} {Q : Option Value → zH → Prop} {QX : String → zH → Prop} {mc ms pc : Nat} {L : zLs} {st : List Value} {G : zH} {C1 n d : String} {idx : Nat} {v : Value} (hO : ∀ (U : State) (H : Heap), V.2.2.2.2.2 U H → va_Z C1 n d v (zA V) U H) (hlk : Cond.fieldLink M.1.cls idx C1 n d ∈ zT) (hd : decode M.2.1 pc = .ok (.getstatic idx, 3)) (k : Z V M fr Q QX mc ms (pc + 3) L (v :: st) G) : Z V M fr Q QX mc ms pc L st G := by
  intro p e R s m args below meth c H locs cells slots CT ST ls C h1 h2 h3 h4 h5 h6 hS hR hl
  have hts := C.2.2.2.2.2.2.2.1
  have hK : va_K V.2.1 V.2.2.1 (zTy V.2.1 V.2.2.2.1) s := C.2.2.2.2.2.2.2.2.1
  exact va_gets C.1 C.2.1 (hO s s.heap C.2.2.2.2.2.2.2.2.2.1) hS C.2.2.2.2.2.1 (hts _ hlk) (fun x h => h) hd (k p e R s m args below meth c H locs cells slots CT ST ls C h1 h2 h3 h4 h5 h6 hS hR hl)
theorem Y.gets {V : zV} {M : zM} {fr : Nat} {o : gO} {Gf : gH} {pc : Nat} {L : zLs} {st : List Value} {G : gH} {C1 n d : String} {idx : Nat} {v : Value} (hO : ∀ (U : State) (H : Heap), V.2.2.2.2.2 U H → va_Z C1 n d v (zA V) U H) (hlk : Cond.fieldLink M.1.cls idx C1 n d ∈ zT) (hd : decode M.2.1 pc = .ok (.getstatic idx, 3)) (k : Y V M fr o Gf (pc + 3) L (v :: st) G) : Y V M fr o Gf pc L st G := by
  exact ⟨k.1, Z.gets hO hlk hd k.2⟩
theorem Z.ldcS {V : zV} {M : zM} {fr : Nat} {Q : Option Value → zH → Prop} {QX : String → zH → Prop} {mc ms pc : Nat} {L : zLs} {st : List Value} {G : zH} {tx : String} {idx q : Nat} (hO : ∀ (U : State) (H : Heap), V.2.2.2.2.2 U H → vk_R M.1.cls idx tx q U) (hd : decode M.2.1 pc = .ok (.ldc idx, 2)) (k : Z V M fr Q QX mc ms (pc + 2) L (.ref q :: st) G) : Z V M fr Q QX mc ms pc L st G := by
  intro p e R s m args below meth c H locs cells slots CT ST ls C h1 h2 h3 h4 h5 h6 hS hR hl
  have hts := C.2.2.2.2.2.2.2.1
  have hK : va_K V.2.1 V.2.2.1 (zTy V.2.1 V.2.2.2.1) s := C.2.2.2.2.2.2.2.2.1
  exact va_ldcS C.1 C.2.1 C.2.2.2.2.2.1 (hO s s.heap C.2.2.2.2.2.2.2.2.2.1) hd (k p e R s m args below meth c H locs cells slots CT ST ls C h1 h2 h3 h4 h5 h6 hS hR hl)
theorem Y.ldcS {V : zV} {M : zM} {fr : Nat} {o : gO} {Gf : gH} {pc : Nat} {L : zLs} {st : List Value} {G : gH} {tx : String} {idx q : Nat} (hO : ∀ (U : State) (H : Heap), V.2.2.2.2.2 U H → vk_R M.1.cls idx tx q U) (hd : decode M.2.1 pc = .ok (.ldc idx, 2)) (k : Y V M fr o Gf (pc + 2) L (.ref q :: st) G) : Y V M fr o Gf pc L st G := by
  exact ⟨k.1, Z.ldcS hO hd k.2⟩
theorem Z.ldcSW {V : zV} {M : zM} {fr : Nat} {Q : Option Value → zH → Prop} {QX : String → zH → Prop} {mc ms pc : Nat} {L : zLs} {st : List Value} {G : zH} {tx : String} {idx q : Nat} (hO : ∀ (U : State) (H : Heap), V.2.2.2.2.2 U H → vk_R M.1.cls idx tx q U) (hd : decode M.2.1 pc = .ok (.ldc_w idx, 3)) (k : Z V M fr Q QX mc ms (pc + 3) L (.ref q :: st) G) : Z V M fr Q QX mc ms pc L st G := by
  intro p e R s m args below meth c H locs cells slots CT ST ls C h1 h2 h3 h4 h5 h6 hS hR hl
  have hts := C.2.2.2.2.2.2.2.1
  have hK : va_K V.2.1 V.2.2.1 (zTy V.2.1 V.2.2.2.1) s := C.2.2.2.2.2.2.2.2.1
  have hZ := hO s s.heap C.2.2.2.2.2.2.2.2.2.1
  intro T hT X
  obtain ⟨t, a1, b1⟩ := (k p e R s m args below meth c H locs cells slots CT ST ls C h1 h2 h3 h4 h5 h6 hS hR hl) T hT X
  exact ⟨t, X.ldcStringW C.1 C.2.2.2.2.2.1 (text := tx) (a := q) hZ.1 hZ.2 (g := F0 m pc ls st) rfl (by rw [C.2.1]; exact hd) t a1, b1⟩
theorem Y.ldcSW {V : zV} {M : zM} {fr : Nat} {o : gO} {Gf : gH} {pc : Nat} {L : zLs} {st : List Value} {G : gH} {tx : String} {idx q : Nat} (hO : ∀ (U : State) (H : Heap), V.2.2.2.2.2 U H → vk_R M.1.cls idx tx q U) (hd : decode M.2.1 pc = .ok (.ldc_w idx, 3)) (k : Y V M fr o Gf (pc + 3) L (.ref q :: st) G) : Y V M fr o Gf pc L st G := by
  exact ⟨k.1, Z.ldcSW hO hd k.2⟩
theorem Z.ldcM {V : zV} {M : zM} {fr : Nat} {Q : Option Value → zH → Prop} {QX : String → zH → Prop} {mc ms pc : Nat} {L : zLs} {st : List Value} {G : zH} {C1 : String} {idx mi : Nat} (hO : ∀ (U : State) (H : Heap), V.2.2.2.2.2 U H → va_Mi C1 mi U) (hlk : Cond.classLink M.1.cls idx C1 ∈ zT) (hd : decode M.2.1 pc = .ok (.ldc idx, 2)) (k : Z V M fr Q QX mc ms (pc + 2) L (.ref mi :: st) G) : Z V M fr Q QX mc ms pc L st G := by
  intro p e R s m args below meth c H locs cells slots CT ST ls C h1 h2 h3 h4 h5 h6 hS hR hl
  have hts := C.2.2.2.2.2.2.2.1
  have hK : va_K V.2.1 V.2.2.1 (zTy V.2.1 V.2.2.2.1) s := C.2.2.2.2.2.2.2.2.1
  exact va_ldcM C.1 C.2.1 C.2.2.2.2.2.1 (hts _ hlk) (hO s s.heap C.2.2.2.2.2.2.2.2.2.1) hd (k p e R s m args below meth c H locs cells slots CT ST ls C h1 h2 h3 h4 h5 h6 hS hR hl)
theorem Y.ldcM {V : zV} {M : zM} {fr : Nat} {o : gO} {Gf : gH} {pc : Nat} {L : zLs} {st : List Value} {G : gH} {C1 : String} {idx mi : Nat} (hO : ∀ (U : State) (H : Heap), V.2.2.2.2.2 U H → va_Mi C1 mi U) (hlk : Cond.classLink M.1.cls idx C1 ∈ zT) (hd : decode M.2.1 pc = .ok (.ldc idx, 2)) (k : Y V M fr o Gf (pc + 2) L (.ref mi :: st) G) : Y V M fr o Gf pc L st G := by
  exact ⟨k.1, Z.ldcM hO hlk hd k.2⟩
theorem Z.getC {V : zV} {M : zM} {fr : Nat} {Q : Option Value → zH → Prop} {QX : String → zH → Prop} {mc ms pc : Nat} {L : zLs} {st : List Value} {G : zH} {a c0 ka t0 idx mi : Nat} {nm : String} {ty : FieldType} {x : vp_A} (hO : ∀ (U : State) (H : Heap), V.2.2.2.2.2 U H → va_Mi nm mi U) (ht : V.2.2.2.1[t0]? = some (ka, ty)) (hnm : "[" ++ ty.toString = nm) (hG : G.2 a = some (.inl (c0, x))) (hcm : c0 % 1000 = ka)
    (hlk : Cond.methodLink M.1.cls idx ⟨"java/lang/Object", "getClass", "()Ljava/lang/Class;"⟩ ∈ zT) (w1 : Cond.declares ⟨"java/lang/Object", "getClass", "()Ljava/lang/Class;"⟩ ∈ zT) (w2 : Cond.selects nm ⟨"java/lang/Object", "getClass", "()Ljava/lang/Class;"⟩ ⟨"java/lang/Object", "getClass", "()Ljava/lang/Class;"⟩ ∈ zT) (w3 : Cond.instanceMethod ⟨"java/lang/Object", "getClass", "()Ljava/lang/Class;"⟩ ∈ zT) (w4 : Cond.native ⟨"java/lang/Object", "getClass", "()Ljava/lang/Class;"⟩ ∈ zT)
    (hfr : 1 ≤ fr) (hLl : L.length = M.2.2.1) (hcat : (st.map fun v => v.category).sum ≤ 8) (hd : decode M.2.1 pc = .ok (.invokevirtual idx, 3)) (k : Z V M fr Q QX mc ms (pc + 3) L (.ref mi :: st) G) : Z V M fr Q QX mc ms pc L (.ref a :: st) G := by
  intro p e R s m args below meth c H locs cells slots CT ST ls C h1 h2 h3 h4 h5 h6 hS hR hl
  have hts := C.2.2.2.2.2.2.2.1
  have hK : va_K V.2.1 V.2.2.1 (zTy V.2.1 V.2.2.2.1) s := C.2.2.2.2.2.2.2.2.1
  subst hcm
  obtain ⟨-, cell, g1, g2, g3, g4, g5, -⟩ := hR.2 a _ hG
  have hfA := zArrName hK ht
  rw [hnm] at hfA
  have hsz : c.maxLocals = ls.size := C.2.2.1.trans (hl.1.trans hLl).symm
  exact va_getC C.1 C.2.1 hsz C.2.2.2.2.2.1 (hts _ hlk) (hts _ w1) (hts _ w2) (hts _ w3) (hts _ w4) (hO s s.heap C.2.2.2.2.2.2.2.2.2.1) ⟨cell, g1, g5, by rw [g2]; exact hfA⟩ (by omega) (by omega) hd (k p e R s m args below meth c H locs cells slots CT ST ls C h1 h2 h3 h4 h5 h6 hS hR hl)
theorem Y.getC {V : zV} {M : zM} {fr : Nat} {o : gO} {Gf : gH} {pc : Nat} {L : zLs} {st : List Value} {G : gH} {a ka t0 idx mi : Nat} {nm : String} {ty : FieldType} {k : gR} (hO : ∀ (U : State) (H : Heap), V.2.2.2.2.2 U H → va_Mi nm mi U) (ht : V.2.2.2.1[t0]? = some (ka, ty)) (hnm : "[" ++ ty.toString = nm)
    (hlk : Cond.methodLink M.1.cls idx ⟨"java/lang/Object", "getClass", "()Ljava/lang/Class;"⟩ ∈ zT) (w1 : Cond.declares ⟨"java/lang/Object", "getClass", "()Ljava/lang/Class;"⟩ ∈ zT) (w2 : Cond.selects nm ⟨"java/lang/Object", "getClass", "()Ljava/lang/Class;"⟩ ⟨"java/lang/Object", "getClass", "()Ljava/lang/Class;"⟩ ∈ zT) (w3 : Cond.instanceMethod ⟨"java/lang/Object", "getClass", "()Ljava/lang/Class;"⟩ ∈ zT) (w4 : Cond.native ⟨"java/lang/Object", "getClass", "()Ljava/lang/Class;"⟩ ∈ zT)
    (hfr : 1 ≤ fr) (hLl : L.length = M.2.2.1) (hcat : (st.map fun v => v.category).sum ≤ 8) (hd : decode M.2.1 pc = .ok (.invokevirtual idx, 3)) (h : gCaQ G a ka k = some (o, Gf)) (kk : k = some (o, Gf) → Y V M fr o Gf (pc + 3) L (.ref mi :: st) G) : Y V M fr o Gf pc L (.ref a :: st) G := by
  obtain ⟨c0, n, f, hb, hm, h⟩ := gAq_inv h
  have k8 := kk h
  exact ⟨k8.1, Z.getC hO ht hnm hb hm hlk w1 w2 w3 w4 hfr hLl hcat hd k8.2⟩
theorem Z.mmax {V : zV} {M : zM} {fr : Nat} {Q : Option Value → zH → Prop} {QX : String → zH → Prop} {mc ms pc : Nat} {L : zLs} {st : List Value} {G : zH} {x y : Int32} {idx : Nat} (hlk : Cond.methodLink M.1.cls idx Lib.Math.max.name ∈ zT) (w1 : Cond.static Lib.Math.max.name ∈ zT) (w2 : Cond.initialized "java/lang/Math" ∈ zT) (w3 : Cond.code Lib.Math.max.name Lib.Math.max.code 2 (some .int) ∈ zT) (hfr : 1 ≤ fr) (hLl : L.length = M.2.2.1) (hcat : (st.map fun v => v.category).sum ≤ 8) (hd : decode M.2.1 pc = .ok (.invokestatic idx, 3)) (k : Z V M fr Q QX mc ms (pc + 3) L (.int (if x < y then y else x) :: st) G) : Z V M fr Q QX mc ms pc L (.int y :: .int x :: st) G := by
  intro p e R s m args below meth c H locs cells slots CT ST ls C h1 h2 h3 h4 h5 h6 hS hR hl
  have hts := C.2.2.2.2.2.2.2.1
  have hK : va_K V.2.1 V.2.2.1 (zTy V.2.1 V.2.2.2.1) s := C.2.2.2.2.2.2.2.2.1
  have hsz : c.maxLocals = ls.size := C.2.2.1.trans (hl.1.trans hLl).symm
  exact va_mmax C.1 C.2.1 hsz C.2.2.2.2.2.1 (hts _ hlk) (hts _ w1) (hts _ w2) (hts _ w3) (by omega) (by omega) (by omega) (by omega) hd (k p e R s m args below meth c H locs cells slots CT ST ls C h1 h2 h3 h4 h5 h6 hS hR hl)
theorem Y.mmax {V : zV} {M : zM} {fr : Nat} {o : gO} {Gf : gH} {pc : Nat} {L : zLs} {st : List Value} {G : gH} {x y : Int32} {idx : Nat} (hlk : Cond.methodLink M.1.cls idx Lib.Math.max.name ∈ zT) (w1 : Cond.static Lib.Math.max.name ∈ zT) (w2 : Cond.initialized "java/lang/Math" ∈ zT) (w3 : Cond.code Lib.Math.max.name Lib.Math.max.code 2 (some .int) ∈ zT) (hfr : 1 ≤ fr) (hLl : L.length = M.2.2.1) (hcat : (st.map fun v => v.category).sum ≤ 8) (hd : decode M.2.1 pc = .ok (.invokestatic idx, 3)) (k : Y V M fr o Gf (pc + 3) L (.int (if x < y then y else x) :: st) G) : Y V M fr o Gf pc L (.int y :: .int x :: st) G := by
  exact ⟨k.1, Z.mmax hlk w1 w2 w3 hfr hLl hcat hd k.2⟩
theorem Z.mmin {V : zV} {M : zM} {fr : Nat} {Q : Option Value → zH → Prop} {QX : String → zH → Prop} {mc ms pc : Nat} {L : zLs} {st : List Value} {G : zH} {x y : Int32} {idx : Nat} (hlk : Cond.methodLink M.1.cls idx Lib.Math.min.name ∈ zT) (w1 : Cond.static Lib.Math.min.name ∈ zT) (w2 : Cond.initialized "java/lang/Math" ∈ zT) (w3 : Cond.code Lib.Math.min.name Lib.Math.min.code 2 (some .int) ∈ zT) (hfr : 1 ≤ fr) (hLl : L.length = M.2.2.1) (hcat : (st.map fun v => v.category).sum ≤ 8) (hd : decode M.2.1 pc = .ok (.invokestatic idx, 3)) (k : Z V M fr Q QX mc ms (pc + 3) L (.int (if y < x then y else x) :: st) G) : Z V M fr Q QX mc ms pc L (.int y :: .int x :: st) G := by
  intro p e R s m args below meth c H locs cells slots CT ST ls C h1 h2 h3 h4 h5 h6 hS hR hl
  have hts := C.2.2.2.2.2.2.2.1
  have hK : va_K V.2.1 V.2.2.1 (zTy V.2.1 V.2.2.2.1) s := C.2.2.2.2.2.2.2.2.1
  have hsz : c.maxLocals = ls.size := C.2.2.1.trans (hl.1.trans hLl).symm
  exact va_mmin C.1 C.2.1 hsz C.2.2.2.2.2.1 (hts _ hlk) (hts _ w1) (hts _ w2) (hts _ w3) (by omega) (by omega) (by omega) (by omega) hd (k p e R s m args below meth c H locs cells slots CT ST ls C h1 h2 h3 h4 h5 h6 hS hR hl)
theorem Y.mmin {V : zV} {M : zM} {fr : Nat} {o : gO} {Gf : gH} {pc : Nat} {L : zLs} {st : List Value} {G : gH} {x y : Int32} {idx : Nat} (hlk : Cond.methodLink M.1.cls idx Lib.Math.min.name ∈ zT) (w1 : Cond.static Lib.Math.min.name ∈ zT) (w2 : Cond.initialized "java/lang/Math" ∈ zT) (w3 : Cond.code Lib.Math.min.name Lib.Math.min.code 2 (some .int) ∈ zT) (hfr : 1 ≤ fr) (hLl : L.length = M.2.2.1) (hcat : (st.map fun v => v.category).sum ≤ 8) (hd : decode M.2.1 pc = .ok (.invokestatic idx, 3)) (k : Y V M fr o Gf (pc + 3) L (.int (if y < x then y else x) :: st) G) : Y V M fr o Gf pc L (.int y :: .int x :: st) G := by
  exact ⟨k.1, Z.mmin hlk w1 w2 w3 hfr hLl hcat hd k.2⟩
theorem Z.copyB {V : zV} {M : zM} {fr : Nat} {Q : Option Value → zH → Prop} {QX : String → zH → Prop} {mc ms pc : Nat} {L : zLs} {st : List Value} {G : zH} {a0 a k0 ka n0 n1 t0 idx : Nat} {f g : Nat → Int32} {sp dp n : Int32} (hlk : Cond.methodLink M.1.cls idx arraycopyName ∈ zT) (w1 : Cond.native arraycopyName ∈ zT) (w2 : Cond.static arraycopyName ∈ zT) (w3 : Cond.initialized "java/lang/System" ∈ zT) (hfr : 1 ≤ fr) (hLl : L.length = M.2.2.1) (hcat : (st.map fun v => v.category).sum ≤ 8) (hd : decode M.2.1 pc = .ok (.invokestatic idx, 3)) (ht : V.2.2.2.1[t0]? = some (ka, .byte)) (hka : ka < 1000) (hG0 : G.2 a0 = some (zI k0 n0 f)) (hkm : k0 % 1000 = ka) (hG1 : G.2 a = some (zI ka n1 g)) (g1 : ¬ sp < 0) (g2 : ¬ dp < 0) (g3 : ¬ n < 0) (g4 : sp.toNatClampNeg + n.toNatClampNeg ≤ n0) (g5 : dp.toNatClampNeg + n.toNatClampNeg ≤ n1) (hfit : ∀ i, i < n.toNatClampNeg → fits .byte (.int (f (sp.toNatClampNeg + i))) = true) (k : Z V M fr Q QX mc ms (pc + 3) L st (zUp G a (zI ka n1 (va_cpy f g sp.toNatClampNeg dp.toNatClampNeg n.toNatClampNeg)))) : Z V M fr Q QX mc ms pc L (.int n :: .int dp :: .ref a :: .int sp :: .ref a0 :: st) G := by
  intro p e_ R s m args below meth c H locs cells slots CT ST ls C h1 h2 h3 h4 h5 h6 hS hR hl
  have hts := C.2.2.2.2.2.2.2.1
  have hK : va_K V.2.1 V.2.2.1 (zTy V.2.1 V.2.2.2.1) s := C.2.2.2.2.2.2.2.2.1
  have nn : ∀ z : Int32, ¬ z < 0 → z.toInt = (z.toNatClampNeg : Int) := by
    intro z hz
    have hz0 : (0 : Int) ≤ z.toInt := by
      have := Int32.not_lt.mp hz
      simpa using Int32.le_iff_toInt_le.mp this
    show z.toInt = ((z.toInt.toNat : Nat) : Int)
    omega
  have hsz : c.maxLocals = ls.size := C.2.2.1.trans (hl.1.trans hLl).symm
  have e9 : ka % 1000 = ka := Nat.mod_eq_of_lt hka
  subst hkm
  obtain ⟨-, cs, qs1, qs2, qs3, qs4, qs5, qs6⟩ := hR.2 a0 _ hG0
  obtain ⟨hB0, cd, q1, q2, q3, q4, q5, q6⟩ := hR.2 a _ hG1
  have hBa : zA V a := hB0 (by show decide (1000 ≤ _) = false; exact decide_eq_false (by omega))
  have hcd : cd = vp_cell (V.2.1.1 (k0 % 1000)) (n1, .inl g) := by have := q3 hka; dsimp only at this; rw [e9] at this; exact this
  subst hcd
  have hA9 := (hK.2 t0 _ (zTy_at ht)).1
  obtain ⟨-, kk0, hk0, cm0, hkk0⟩ := zArrOf hA9 qs2 qs5
  obtain ⟨-, kk1, hk1, cm1, hkk1⟩ := hA9 n1 (fun j => .int (g j))
  intro T hT X
  obtain ⟨vm', X', step⟩ := X.arraycopy C.1 C.2.2.2.2.2.1 (hts _ hlk) (hts _ w1) (hts _ w2) (hts _ w3) (src := a0) (dst := a) (cs := cs) (cd := vp_cell (V.2.1.1 (k0 % 1000)) (n1, .inl g)) (srcPos := sp) (destPos := dp) (n := n) (by rw [hT]; exact qs1) (by rw [hT]; exact q1)
    (fun _ h => by rw [h] at qs5; cases qs5) (fun _ h => by cases h) qs4 (fun h => by cases h) hk0 hk1 hkk0 hkk1 (by simp [refKind]) g1 g2 g3
    (by rw [nn sp g1, nn n g3, zSz_i qs6]; omega)
    (by rw [nn dp g2, nn n g3, zSz_i q6]; omega)
    (fun vm₁ _ i hi => by
      have e : cs.slots.getD (sp.toNatClampNeg + i) .null = .int (f (sp.toNatClampNeg + i)) := by
        rw [Array.getD_eq_getD_getElem?, zGt_i qs6 (by omega)]
        rfl
      refine ⟨?_, ?_⟩
      · rw [e]
        exact hfit i hi
      · rw [e]
        exact trivial)
    (g := F0 m pc ls (.int n :: .int dp :: .ref a :: .int sp :: .ref a0 :: st)) rfl (by rw [hsz]) (rest := st) rfl (by rw [C.2.1]; exact hd) (by omega) (by show 2 * 0 + _ + _ ≤ _; have hw : nativeFrameWords "java/lang/System" "arraycopy" 5 ≤ 20 := (by decide); omega)
  have e1 : copied cs (vp_cell (V.2.1.1 (k0 % 1000)) (n1, .inl g)) sp dp n = vp_cell (V.2.1.1 (k0 % 1000)) (n1, .inl (va_cpy f g sp.toNatClampNeg dp.toNatClampNeg n.toNatClampNeg)) := by
    exact va_copiedX (fun z => .int z) cs (V.2.1.1 (k0 % 1000)) f g (fun j hj => zGt_i qs6 hj) g4
  rw [e1] at X' step
  have hlt : a < H.size := (Array.getElem?_eq_some_iff.mp q1).1
  generalize hnew : vp_cell (V.2.1.1 (k0 % 1000)) (n1, .inl (va_cpy f g sp.toNatClampNeg dp.toNatClampNeg n.toNatClampNeg)) = cn at X' step
  have hheap : ((T.setVm vm').setCell a cn).heap = H.setIfInBounds a cn := by rw [← hT]; rfl
  have oq : ∀ q : Nat, q ≠ a → (H.setIfInBounds a cn)[q]? = H[q]? := fun q hq => by simp [Array.getElem?_setIfInBounds, Ne.symm hq]
  have ea : (H.setIfInBounds a cn)[a]? = some cn := by simp [Array.getElem?_setIfInBounds, hlt]
  have hzz : (H.setIfInBounds a cn).size = H.size := by simp
  have k9 := fun (lc : List Loc) (hS9 : va_S (zA V) s.heap (H.setIfInBounds a cn) lc) => k p e_ R s m args below meth c (H.setIfInBounds a cn) lc cells slots CT ST ls C h1 h2 h3 h4 h5 h6 hS9 (hR.up hBa ⟨cn, ea, (by rw [← hnew, e9]; rfl), fun _ => (by rw [← hnew, e9]), (by rw [← hnew]; exact fun h => by cases h), (by rw [← hnew]; rfl), (by rw [← hnew]; rfl)⟩ hzz oq) hl
  obtain ⟨t, a1, b1⟩ := k9 _ ⟨by rw [hzz]; exact hS.1, fun q u1 u2 => (oq q (fun h => u2 (by rw [h]; exact hBa))).trans (hS.2.1 q u1 u2), fun q hq => by
      rcases List.mem_append.mp hq with h | h
      · exact hS.2.2 q h
      · obtain ⟨z, -, hz⟩ := List.mem_map.mp h
        rw [← hz]
        exact hBa⟩ _ hheap X'
  exact ⟨t, step t a1, b1⟩
theorem Z.copyQ {V : zV} {M : zM} {fr : Nat} {Q : Option Value → zH → Prop} {QX : String → zH → Prop} {mc ms pc : Nat} {L : zLs} {st : List Value} {G : zH} {a0 a k0 ka n0 n1 t0 idx : Nat} {f g : Nat → Option Nat} {sp dp n : Int32} (hlk : Cond.methodLink M.1.cls idx arraycopyName ∈ zT) (w1 : Cond.native arraycopyName ∈ zT) (w2 : Cond.static arraycopyName ∈ zT) (w3 : Cond.initialized "java/lang/System" ∈ zT) (hfr : 1 ≤ fr) (hLl : L.length = M.2.2.1) (hcat : (st.map fun v => v.category).sum ≤ 8) (hd : decode M.2.1 pc = .ok (.invokestatic idx, 3)) (ht : V.2.2.2.1[t0]? = some (ka, .object "java/lang/Object")) (hka : ka < 1000) (hG0 : G.2 a0 = some (zQ k0 n0 f)) (hkm : k0 % 1000 = ka) (hG1 : G.2 a = some (zQ ka n1 g)) (g1 : ¬ sp < 0) (g2 : ¬ dp < 0) (g3 : ¬ n < 0) (g4 : sp.toNatClampNeg + n.toNatClampNeg ≤ n0) (g5 : dp.toNatClampNeg + n.toNatClampNeg ≤ n1) (hel : ∀ i : Nat, i < n.toNatClampNeg → ∀ y : Nat, f (sp.toNatClampNeg + i) = some y → (∃ (c : Nat) (vs : List Value), G.2 y = some (.inr (c, vs)) ∧ c % 1000 = 9) ∨ (∃ (c : Nat) (x : vp_A), G.2 y = some (.inl (c, x)) ∧ c % 1000 = 100)) (hr9 : ∃ r, V.2.2.1[9]? = some r ∧ Cond.castable r.1 "java/lang/Object" ∈ zT) (hr0 : V.2.2.2.1[0]? = some (100, .int)) (hca : Cond.castable "[I" "java/lang/Object" ∈ zT) (k : Z V M fr Q QX mc ms (pc + 3) L st (zUp G a (zQ ka n1 (va_cpy f g sp.toNatClampNeg dp.toNatClampNeg n.toNatClampNeg)))) : Z V M fr Q QX mc ms pc L (.int n :: .int dp :: .ref a :: .int sp :: .ref a0 :: st) G := by
  intro p e_ R s m args below meth c H locs cells slots CT ST ls C h1 h2 h3 h4 h5 h6 hS hR hl
  have hts := C.2.2.2.2.2.2.2.1
  have hK : va_K V.2.1 V.2.2.1 (zTy V.2.1 V.2.2.2.1) s := C.2.2.2.2.2.2.2.2.1
  have nn : ∀ z : Int32, ¬ z < 0 → z.toInt = (z.toNatClampNeg : Int) := by
    intro z hz
    have hz0 : (0 : Int) ≤ z.toInt := by
      have := Int32.not_lt.mp hz
      simpa using Int32.le_iff_toInt_le.mp this
    show z.toInt = ((z.toInt.toNat : Nat) : Int)
    omega
  have hsz : c.maxLocals = ls.size := C.2.2.1.trans (hl.1.trans hLl).symm
  have e9 : ka % 1000 = ka := Nat.mod_eq_of_lt hka
  subst hkm
  obtain ⟨-, cs, qs1, qs2, qs3, qs4, qs5, qs6⟩ := hR.2 a0 _ hG0
  obtain ⟨hB0, cd, q1, q2, q3, q4, q5, q6⟩ := hR.2 a _ hG1
  have hBa : zA V a := hB0 (by show decide (1000 ≤ _) = false; exact decide_eq_false (by omega))
  have hcd : cd = vp_cell (V.2.1.1 (k0 % 1000)) (n1, .inr (.inr (.inr (.inr g)))) := by have := q3 hka; dsimp only at this; rw [e9] at this; exact this
  subst hcd
  have hA9 := (hK.2 t0 _ (zTy_at ht)).1
  obtain ⟨-, kk0, hk0, cm0, hkk0⟩ := zArrOf hA9 qs2 qs5
  obtain ⟨-, kk1, hk1, cm1, hkk1⟩ := hA9 n1 (fun j => va_rf (g j))
  intro T hT X
  obtain ⟨vm', X', step⟩ := X.arraycopy C.1 C.2.2.2.2.2.1 (hts _ hlk) (hts _ w1) (hts _ w2) (hts _ w3) (src := a0) (dst := a) (cs := cs) (cd := vp_cell (V.2.1.1 (k0 % 1000)) (n1, .inr (.inr (.inr (.inr g))))) (srcPos := sp) (destPos := dp) (n := n) (by rw [hT]; exact qs1) (by rw [hT]; exact q1)
    (fun _ h => by rw [h] at qs5; cases qs5) (fun _ h => by cases h) qs4 (fun h => by cases h) hk0 hk1 hkk0 hkk1 rfl g1 g2 g3
    (by rw [nn sp g1, nn n g3, zSz_q qs6]; omega)
    (by rw [nn dp g2, nn n g3, zSz_q q6]; omega)
    (fun vm₁ hal i hi => by
      have e : cs.slots.getD (sp.toNatClampNeg + i) .null = va_rf (f (sp.toNatClampNeg + i)) := by
        rw [Array.getD_eq_getD_getElem?, zGt_q qs6 (by omega)]
        rfl
      rw [e]
      cases hy : f (sp.toNatClampNeg + i) with
      | none => exact ⟨rfl, trivial⟩
      | some y =>
        obtain ⟨kA, comp, r1, r2, r3, -⟩ := (hK.2 t0 _ (zTy_at ht)).2
        cases hk1.symm.trans r1
        cases hkk1.symm.trans r2
        obtain ⟨kE, hkE, -⟩ := Vm.findClass_spec r3
        obtain ⟨kE', hkE', -⟩ := hal.2.2 _ _ hkE
        have key : ∃ cellV : Cell, H[y]? = some cellV ∧ cellV.vm.isStatics = false ∧ (∃ kC : Class, s.vm.classes[cellV.cls]? = some kC) ∧ s.vm.assignable cellV.cls cm1 = true := by
          rcases hel i hi y hy with ⟨c9, vs, hy2, hc9⟩ | ⟨c9, x9, hy2, hc9⟩
          · obtain ⟨-, r', cellV, hr', v1, v2, v3, v4, v5, -⟩ := hR.2 y _ hy2
            dsimp only at hr' v2
            rw [hc9] at hr' v2
            obtain ⟨r9, hr9', hca9⟩ := hr9
            have hcls := (hK.1 _ r9 hr9').2
            obtain ⟨kC, hkC, -⟩ := hcls.2
            obtain ⟨c8, t9, f1, f2, f3⟩ := Cond.castable_spec (hts _ hca9)
            cases hcls.1.symm.trans f1
            cases r3.symm.trans f2
            exact ⟨cellV, v1, v5, ⟨kC, by rw [v2]; exact hkC⟩, by rw [v2]; exact f3⟩
          · obtain ⟨-, cellV, v1, v2, v3, v4, v5, -⟩ := hR.2 y _ hy2
            dsimp only at v2
            rw [hc9] at v2
            have hfA := zArrName hK hr0
            rw [show "[" ++ FieldType.int.toString = "[I" from by decide] at hfA
            obtain ⟨kC, hkC, -⟩ := Vm.findClass_spec hfA
            obtain ⟨c8, t9, f1, f2, f3⟩ := Cond.castable_spec (hts _ hca)
            cases hfA.symm.trans f1
            cases r3.symm.trans f2
            exact ⟨cellV, v1, v5, ⟨kC, by rw [v2]; exact hkC⟩, by rw [v2]; exact f3⟩
        obtain ⟨cellV, v1, v2, ⟨kC, hkC⟩, v3⟩ := key
        obtain ⟨kC', hkC', -⟩ := hal.2.2 _ _ hkC
        refine ⟨rfl, cellV, (show T.heap[y]? = some cellV by rw [hT]; exact v1), (fun q h => by rw [h] at v2; cases v2), ⟨kC', hkC'⟩, ⟨kE', hkE'⟩, ?_⟩
        show vm₁.assignable _ _ = true
        rw [hal.assignable]
        exact v3)
    (g := F0 m pc ls (.int n :: .int dp :: .ref a :: .int sp :: .ref a0 :: st)) rfl (by rw [hsz]) (rest := st) rfl (by rw [C.2.1]; exact hd) (by omega) (by show 2 * 0 + _ + _ ≤ _; have hw : nativeFrameWords "java/lang/System" "arraycopy" 5 ≤ 20 := (by decide); omega)
  have e1 : copied cs (vp_cell (V.2.1.1 (k0 % 1000)) (n1, .inr (.inr (.inr (.inr g))))) sp dp n = vp_cell (V.2.1.1 (k0 % 1000)) (n1, .inr (.inr (.inr (.inr (va_cpy f g sp.toNatClampNeg dp.toNatClampNeg n.toNatClampNeg))))) := by
    exact va_copiedX (fun z => va_rf z) cs (V.2.1.1 (k0 % 1000)) f g (fun j hj => zGt_q qs6 hj) g4
  rw [e1] at X' step
  have hlt : a < H.size := (Array.getElem?_eq_some_iff.mp q1).1
  generalize hnew : vp_cell (V.2.1.1 (k0 % 1000)) (n1, .inr (.inr (.inr (.inr (va_cpy f g sp.toNatClampNeg dp.toNatClampNeg n.toNatClampNeg))))) = cn at X' step
  have hheap : ((T.setVm vm').setCell a cn).heap = H.setIfInBounds a cn := by rw [← hT]; rfl
  have oq : ∀ q : Nat, q ≠ a → (H.setIfInBounds a cn)[q]? = H[q]? := fun q hq => by simp [Array.getElem?_setIfInBounds, Ne.symm hq]
  have ea : (H.setIfInBounds a cn)[a]? = some cn := by simp [Array.getElem?_setIfInBounds, hlt]
  have hzz : (H.setIfInBounds a cn).size = H.size := by simp
  have k9 := fun (lc : List Loc) (hS9 : va_S (zA V) s.heap (H.setIfInBounds a cn) lc) => k p e_ R s m args below meth c (H.setIfInBounds a cn) lc cells slots CT ST ls C h1 h2 h3 h4 h5 h6 hS9 (hR.up hBa ⟨cn, ea, (by rw [← hnew, e9]; rfl), fun _ => (by rw [← hnew, e9]), (by rw [← hnew]; exact fun h => by cases h), (by rw [← hnew]; rfl), (by rw [← hnew]; rfl)⟩ hzz oq) hl
  obtain ⟨t, a1, b1⟩ := k9 _ ⟨by rw [hzz]; exact hS.1, fun q u1 u2 => (oq q (fun h => u2 (by rw [h]; exact hBa))).trans (hS.2.1 q u1 u2), fun q hq => by
      rcases List.mem_append.mp hq with h | h
      · exact hS.2.2 q h
      · obtain ⟨z, -, hz⟩ := List.mem_map.mp h
        rw [← hz]
        exact hBa⟩ _ hheap X'
  exact ⟨t, step t a1, b1⟩
theorem nat_copy : Cond.native arraycopyName ∈ zT := zU5 61 (by decide +kernel) rfl
theorem st_copy : Cond.static arraycopyName ∈ zT := zU5 60 (by decide +kernel) rfl
theorem lk_AR_150 : Cond.methodLink "java/util/Arrays" 150 arraycopyName ∈ zT := zU5 59 (by decide +kernel) rfl
theorem lk_ST_212 : Cond.methodLink "java/lang/String" 212 arraycopyName ∈ zT := zU5 226 (by decide +kernel) rfl
theorem lk_AL_112 : Cond.methodLink "java/util/ArrayList" 112 arraycopyName ∈ zT := zU6 237 (by decide +kernel) rfl
theorem dc_getC : Cond.declares ({ cls := "java/lang/Object", name := "getClass", desc := "()Ljava/lang/Class;" } : MethodName) ∈ zT := zU8 210 (by decide +kernel) rfl
theorem in_getC : Cond.instanceMethod ({ cls := "java/lang/Object", name := "getClass", desc := "()Ljava/lang/Class;" } : MethodName) ∈ zT := zU6 96 (by decide +kernel) rfl
theorem nat_getC : Cond.native ({ cls := "java/lang/Object", name := "getClass", desc := "()Ljava/lang/Class;" } : MethodName) ∈ zT := zU6 112 (by decide +kernel) rfl
theorem se_getC : Cond.selects "[Ljava/lang/Object;" ({ cls := "java/lang/Object", name := "getClass", desc := "()Ljava/lang/Class;" } : MethodName) ({ cls := "java/lang/Object", name := "getClass", desc := "()Ljava/lang/Class;" } : MethodName) ∈ zT := zU8 209 (by decide +kernel) rfl
theorem lk_AR_86 : Cond.methodLink "java/util/Arrays" 86 ⟨"java/lang/Object", "getClass", "()Ljava/lang/Class;"⟩ ∈ zT := zU6 95 (by decide +kernel) rfl
theorem ca_AL : Cond.castable "java/util/ArrayList" "java/lang/Object" ∈ zT := zU8 200 (by decide +kernel) rfl
theorem ca_I : Cond.castable "[I" "java/lang/Object" ∈ zT := zU8 211 (by decide +kernel) rfl
theorem ca_Bc : Cond.castable "[B" "java/lang/Cloneable" ∈ zT := zU5 54 (by decide +kernel) rfl
theorem lk_clone : Cond.methodLink "java/util/Arrays" 310 ⟨"[B", "clone", "()Ljava/lang/Object;"⟩ ∈ zT := zU5 49 (by decide +kernel) rfl
theorem sm_clone : Cond.sameMethod "[B" "java/lang/Object" "clone" "()Ljava/lang/Object;" ∈ zT := zU5 50 (by decide +kernel) rfl
theorem nat_clone : Cond.native ⟨"java/lang/Object", "clone", "()Ljava/lang/Object;"⟩ ∈ zT := zU5 51 (by decide +kernel) rfl
theorem in_clone : Cond.instanceMethod ⟨"java/lang/Object", "clone", "()Ljava/lang/Object;"⟩ ∈ zT := zU5 52 (by decide +kernel) rfl
theorem se_clone : Cond.selects "[B" ⟨"[B", "clone", "()Ljava/lang/Object;"⟩ ⟨"java/lang/Object", "clone", "()Ljava/lang/Object;"⟩ ∈ zT := zU5 53 (by decide +kernel) rfl
theorem Z.cloneB {V : zV} {M : zM} {fr : Nat} {Q : Option Value → zH → Prop} {QX : String → zH → Prop} {mc ms pc : Nat} {L : zLs} {st : List Value} {G : zH} {a ka n t0 idx : Nat} {f : Nat → Int32} (hlk : Cond.methodLink M.1.cls idx ⟨"[B", "clone", "()Ljava/lang/Object;"⟩ ∈ zT) (ht : V.2.2.2.1[t0]? = some (ka, .byte)) (hka : ka < 1000) (hG : G.2 a = some (zI ka n f)) (hfit : ∀ i, i < n → fits .byte (.int (f i)) = true)
    (hfr : 1 ≤ fr) (hLl : L.length = M.2.2.1) (hcat : (st.map fun v => v.category).sum ≤ 8) (hd : decode M.2.1 pc = .ok (.invokevirtual idx, 3)) (k : Z V M fr Q QX mc ms (pc + 3) L (.ref G.1 :: st) (zNew G (zI ka n f))) : Z V M fr Q QX (mc + 1) (ms + n) pc L (.ref a :: st) G := by
  intro p e_ R s m args below meth c H locs cells slots CT ST ls C h1 h2 h3 h4 h5 h6 hS hR hl
  have hts := C.2.2.2.2.2.2.2.1
  have hK : va_K V.2.1 V.2.2.1 (zTy V.2.1 V.2.2.2.1) s := C.2.2.2.2.2.2.2.2.1
  have hsz : c.maxLocals = ls.size := C.2.2.1.trans (hl.1.trans hLl).symm
  have hzz := hR.1
  have hBs := Nat.le_trans C.2.2.2.2.2.2.2.2.2.2.1 hS.1
  have e9 : ka % 1000 = ka := Nat.mod_eq_of_lt hka
  obtain ⟨hB0, cd, q1, q2, q3, q4, q5, q6⟩ := hR.2 a _ hG
  have hcd : cd = vp_cell (V.2.1.1 ka) (n, .inl f) := by have := q3 hka; dsimp only at this; rw [e9] at this; exact this
  subst hcd
  have hfA := zArrName hK ht
  rw [show "[" ++ FieldType.byte.toString = "[B" from by decide] at hfA
  obtain ⟨c0, t0', f1, f2, f3⟩ := Cond.castable_spec (hts _ ca_Bc)
  cases hfA.symm.trans f1
  intro T hT X
  have hcellT : T.heap[a]? = some (vp_cell (V.2.1.1 ka) (n, .inl f)) := by rw [hT]; exact q1
  obtain ⟨-, kA, hkA, comp, hkind⟩ := State.isArrayOf_alike X.warmed.alike ((hK.2 t0 _ (zTy_at ht)).1 0 (fun _ => .null))
  obtain ⟨-, kS, hkS, compS, hkindS⟩ := (hK.2 t0 _ (zTy_at ht)).1 0 (fun _ => .null)
  obtain ⟨vm', X', stp⟩ := X.cloneArray C.1 C.2.2.2.2.2.1 (hts _ hlk) (hts _ sm_clone) (hts _ nat_clone) (hts _ in_clone) (hts _ se_clone) (a := a) (cell := vp_cell (V.2.1.1 ka) (n, .inl f)) hcellT (fun k h => by cases h) (fun h => by cases h) hfA f2 f3
    (fun i v hv => by
      have hk' : T.vm.classes[V.2.1.1 ka]? = some kA := hkA
      have hv2 : (arrV (V.2.1.1 ka) n (fun j => .int (f j))).slots[i]? = some v := hv
      have hi : i < n := by have := (Array.getElem?_eq_some_iff.mp hv2).1; rwa [arrV_size] at this
      rw [arrV_read _ _ hi] at hv2
      cases hv2
      show State.fitsSlot _ (V.2.1.1 ka) _ _ _ = true
      simpa [State.fitsSlot, State.slotType?, hk', hkind] using hfit i hi)
    (g := F0 m pc ls (.ref a :: st)) rfl (by rw [hsz]) rfl (by rw [C.2.1]; exact hd) (by omega) (by show 2 * 0 + _ + 14 ≤ _; omega) (by omega) (by rw [zSz_i q6]; omega) (hloader := Vm.clonesLoader_of_array hkS hkindS)
  rw [zSz_i q6] at X'
  generalize hH1 : H.push (vp_cell (V.2.1.1 ka) (n, .inl f)) = H1
  have z1 : H1.size = H.size + 1 := by rw [← hH1, Array.size_push]
  have e1 : H1[H.size]? = some (vp_cell (V.2.1.1 ka) (n, .inl f)) := by rw [← hH1, Array.getElem?_push_size]
  have o1 : ∀ q : Nat, q < H.size → H1[q]? = H[q]? := fun q hq => by rw [← hH1, Array.getElem?_push, if_neg (Nat.ne_of_lt hq)]
  have k9 := k p e_ R s m args below meth c H1 locs (cells + 1) (slots + n) CT ST ls C h1 h2 h3 h4 (by omega) (by omega) (hS.new1 z1 o1) (hR.new hBs ⟨_, e1, (by show _ = V.2.1.1 (ka % 1000); rw [e9]; rfl), fun _ => (by show _ = vp_cell (V.2.1.1 (ka % 1000)) _; rw [e9]), (fun h => by cases h), rfl, rfl⟩ z1 o1) hl
  rw [← hzz] at k9
  obtain ⟨t, b1, b2⟩ := k9 _ (by rw [← hH1, ← hT]; rfl) X'
  refine ⟨t, stp t ?_, b2⟩
  rw [show T.heap.size = H.size by rw [hT]] at *
  exact b1
theorem Y.copyB {V : zV} {M : zM} {fr : Nat} {o : gO} {Gf : gH} {pc : Nat} {L : zLs} {st : List Value} {G : gH} {a0 a t0 idx : Nat} {sp dp n : Int32} {kk : gH → gR} (hlk : Cond.methodLink M.1.cls idx arraycopyName ∈ zT) (w1 : Cond.native arraycopyName ∈ zT) (w2 : Cond.static arraycopyName ∈ zT) (w3 : Cond.initialized "java/lang/System" ∈ zT) (hfr : 1 ≤ fr) (hLl : L.length = M.2.2.1) (hcat : (st.map fun v => v.category).sum ≤ 8) (hd : decode M.2.1 pc = .ok (.invokestatic idx, 3)) (ht : V.2.2.2.1[t0]? = some (101, .byte)) (h : gCpB G a0 sp a dp n kk = some (o, Gf)) (k9 : ∀ G' : gH, G'.1 = G.1 → G'.2.1 = G.2.1 → kk G' = some (o, Gf) → Y V M fr o Gf (pc + 3) L st G') : Y V M fr o Gf pc L (.int n :: .int dp :: .ref a :: .int sp :: .ref a0 :: st) G := by
  obtain ⟨c0, n0, f, he0, hm, h⟩ := gAr_inv h
  obtain ⟨n1, g, he1, h⟩ := gArW_inv h
  try dsimp only at h
  split at h
  · next hc =>
    obtain ⟨b1, b2, b3, b4, b5⟩ := gBnd_of hc.1
    have k8 := k9 (gUp G a (zI 101 n1 (va_cpy f g sp.toNatClampNeg dp.toNatClampNeg n.toNatClampNeg))) rfl rfl h
    exact ⟨k8.1, Z.copyB hlk w1 w2 w3 hfr hLl hcat hd ht (by decide) he0 hm he1 b1 b2 b3 b4 b5 (fun i hi => List.all_eq_true.mp hc.2 i (List.mem_range.mpr hi)) k8.2⟩
  · cases h
theorem Y.copyQ {V : zV} {M : zM} {fr : Nat} {o : gO} {Gf : gH} {pc : Nat} {L : zLs} {st : List Value} {G : gH} {a0 a t0 idx : Nat} {sp dp n : Int32} {kk : gH → gR} (hlk : Cond.methodLink M.1.cls idx arraycopyName ∈ zT) (w1 : Cond.native arraycopyName ∈ zT) (w2 : Cond.static arraycopyName ∈ zT) (w3 : Cond.initialized "java/lang/System" ∈ zT) (hfr : 1 ≤ fr) (hLl : L.length = M.2.2.1) (hcat : (st.map fun v => v.category).sum ≤ 8) (hd : decode M.2.1 pc = .ok (.invokestatic idx, 3)) (ht : V.2.2.2.1[t0]? = some (103, .object "java/lang/Object")) (hr9 : ∃ r, V.2.2.1[9]? = some r ∧ Cond.castable r.1 "java/lang/Object" ∈ zT) (hr0 : V.2.2.2.1[0]? = some (100, .int)) (h : gCpQ G a0 sp a dp n kk = some (o, Gf)) (k9 : ∀ G' : gH, G'.1 = G.1 → G'.2.1 = G.2.1 → kk G' = some (o, Gf) → Y V M fr o Gf (pc + 3) L st G') : Y V M fr o Gf pc L (.int n :: .int dp :: .ref a :: .int sp :: .ref a0 :: st) G := by
  obtain ⟨c0, n0, f, he0, hm, h⟩ := gAq_inv h
  obtain ⟨n1, g, he1, h⟩ := gAqW_inv h
  try dsimp only at h
  split at h
  · next hc =>
    obtain ⟨b1, b2, b3, b4, b5⟩ := gBnd_of hc.1
    have k8 := k9 (gUp G a (zQ 103 n1 (va_cpy f g sp.toNatClampNeg dp.toNatClampNeg n.toNatClampNeg))) rfl rfl h
    refine ⟨k8.1, Z.copyQ hlk w1 w2 w3 hfr hLl hcat hd ht (by decide) he0 hm he1 b1 b2 b3 b4 b5 (fun i hi y hy => ?_) hr9 hr0 ca_I k8.2⟩
    have hel := List.all_eq_true.mp hc.2 i (List.mem_range.mpr hi)
    rw [hy] at hel
    simp only [gEltO, gElt] at hel
    split at hel
    · next c9 vs h9 => exact Or.inl ⟨c9, vs, h9, by simpa using hel⟩
    · next c9 x h9 => exact Or.inr ⟨c9, x, h9, by simpa using hel⟩
    · cases hel
  · cases h
theorem Y.cloneB {V : zV} {M : zM} {fr : Nat} {o : gO} {Gf : gH} {pc : Nat} {L : zLs} {st : List Value} {G : gH} {a t0 idx : Nat} {kk : Nat → gH → gR} (hlk : Cond.methodLink M.1.cls idx ⟨"[B", "clone", "()Ljava/lang/Object;"⟩ ∈ zT) (ht : V.2.2.2.1[t0]? = some (101, .byte)) (hfr : 1 ≤ fr) (hLl : L.length = M.2.2.1) (hcat : (st.map fun v => v.category).sum ≤ 8) (hd : decode M.2.1 pc = .ok (.invokevirtual idx, 3)) (h : gClB G a kk = some (o, Gf)) (k9 : ∀ (a : Nat) (G' : gH), kk a G' = some (o, Gf) → Y V M fr o Gf (pc + 3) L (.ref a :: st) G') : Y V M fr o Gf pc L (.ref a :: st) G := by
  obtain ⟨n, f, he, h⟩ := gArW_inv h
  try dsimp only at h
  split at h
  · next hc =>
    have k8 := k9 _ _ h
    obtain ⟨⟨g1, g2⟩, k8⟩ := k8
    have e1 : (gNew G n (zI 101 n f)).2.1 = G.2.1 + 1 := rfl
    have e2 : (gNew G n (zI 101 n f)).1 = G.1 + n := rfl
    rw [e1] at g1 k8
    rw [e2] at g2 k8
    refine ⟨⟨by omega, by omega⟩, ?_⟩
    have k7 := Z.cloneB hlk ht (by decide) he (fun i hi => List.all_eq_true.mp hc i (List.mem_range.mpr hi)) hfr hLl hcat hd k8
    rw [show Gf.2.1 - (G.2.1 + 1) + 1 = Gf.2.1 - G.2.1 by omega, show Gf.1 - (G.1 + n) + n = Gf.1 - G.1 by omega] at k7
    exact k7
  · cases h
theorem Y.aastX {V : zV} {M : zM} {fr : Nat} {o : gO} {Gf : gH} {pc : Nat} {L : zLs} {st : List Value} {G : gH} {a b t0 : Nat} {i : Int32} {kk : gH → gR} (hd : decode M.2.1 pc = .ok (.aastore, 1)) (ht : V.2.2.2.1[t0]? = some (103, .object "java/lang/Object")) (hc9 : V.2.2.1[9]? = some ("java/util/ArrayList", T_AL, 3)) (hr0 : V.2.2.2.1[0]? = some (100, .int)) (h : gStX G a 103 i b kk = some (o, Gf)) (k9 : ∀ G' : gH, G'.1 = G.1 → G'.2.1 = G.2.1 → kk G' = some (o, Gf) → Y V M fr o Gf (pc + 1) L st G') : Y V M fr o Gf pc L (.ref b :: .int i :: .ref a :: st) G := by
  unfold gStX at h
  split at h
  · exact Y.aastC hd ht hc9 ca_AL (by decide) h k9
  · exact Y.aastA hd ht hr0 (by decide) ca_I (by decide) h k9
  · cases h
