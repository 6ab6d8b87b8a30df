/-- what every call asks of the method called -/
def zCb (y : zM) (n : Nat) : Prop := Cond.code y.1 y.2.1 y.2.2.1 y.2.2.2 ∈ zT ∧ Cond.initialized y.1.cls ∈ zT ∧ (y.1.cls ≠ "java/lang/invoke/MethodHandle" ∧ y.1.cls ≠ "java/lang/invoke/VarHandle") ∧ (parseMethodDescriptor y.1.desc).map (fun d => d.parameters.length) = some n ∧ y.2.2.1 ≤ 41
theorem zW_stay {s : State} {args : Array Value} {y : zM} {n : Nat} (hts : ∀ w ∈ zT, w.before args s = true) (h : zCb y n) : ∀ w ∈ zW y, ∀ (a' : Array Value) (U : State), s.WarmedH U.vm → w.before a' U = true := by
  intro w hw a' U hW
  rcases List.mem_cons.mp hw with h9 | h9
  · rw [h9]; exact zT_stay hW hts _ h.1
  · exact zT_stay hW hts _ h9
theorem zCb_sig {y : zM} {n : Nat} (h : zCb y n) : ∀ sig, parseMethodDescriptor y.1.desc = some sig → n = sig.parameters.length := by
  intro sig h9
  have h2 := h.2.2.2.1
  rw [h9] at h2
  exact (Option.some.inj h2).symm
theorem zPc_at {V : zV} {M : zM} {p : Program} {R : Room} {s : State} {m : MethodId} {args : Array Value} {meth : Method} {c : Code} {H : Heap} {locs : List Loc} {G : zH} {As : List Value} (hV : zOk V) (C : zCx V M p R s m args meth c) (hS : va_S (zA V) s.heap H locs) (hR : zRl V G H) :
    FrameBlind (zPc V As G) ∧ ∀ U : State, U.heap = H → s.WarmedH U.vm → zPc V As G As.toArray U := by
  refine ⟨fun a U g mk h => ⟨h.1, h.2.1, h.2.2.1, hV.2.1 U _ _ rfl h.2.2.2.1, h.2.2.2.2⟩, fun U hU hW => ⟨rfl, by rw [hU]; exact hR, zKn.moved hW.alike C.2.2.2.2.2.2.2.2.1, ?_, ?_⟩⟩
  · rw [hU]
    exact hV.2.2 s U s.heap H hW (fun q h1 h2 => hS.2.1 q h1 h2) hS.1 C.2.2.2.2.2.2.2.2.2.1
  · rw [hU]
    exact Nat.le_trans C.2.2.2.2.2.2.2.2.2.2.1 hS.1
theorem zAfter {V : zV} {M : zM} {fr : Nat} {Q Qy : Option Value → zH → Prop} {QX Qyx : String → zH → Prop} {mc ms yc ys pc : Nat} {L : zLs} {st st0 : List Value} {p : Program} {e : Env} {R : Room} {s : State} {m : MethodId} {args : Array Value} {below : List Frame} {meth : Method} {c : Code} {H : Heap} {locs : List Loc} {cells slots CT ST : Nat} {ls : Array Slot} {a : Array Value}
    (hr : vx_Run p V.1 e R s m args below meth c H locs cells slots yc ys (F0 m pc ls st0) st (zQc V Qy a) (zXC V Qyx) (zA V)) (C : zCx V M p R s m args meth c) (h1 : fr ≤ R.frames) (h2 : 60 * fr ≤ R.locals) (h3 : CT ≤ R.cells) (h4 : ST ≤ R.slots) (h5 : cells + yc + mc ≤ CT) (h6 : slots + ys + ms ≤ ST) (hS : va_S (zA V) s.heap H locs) (hl : zL ls L)
    (hx : ∀ (E : String) (G' : zH), Qyx E G' → QX E G') (kk : ∀ (v : Option Value) (G' : zH), Qy v G' → Z V M fr Q QX mc ms (pc + 3) L (v.toList ++ st) G') :
    W p V.1 e R s m args below meth c H locs cells slots (vx_MQ below (zQc V Q) (zXC V QX) args s CT ST (zA V)) (F0 m pc ls st0) := by
  intro T hT X
  rcases hr T hT X with ⟨v, st₀, t, T', L9, h0, X', hL9, e1, e2, ⟨v', G', hv, hq, hRl, hF⟩, stp⟩ | ⟨q, st₀, t, T', L9, E, ce, h0, X', hL9, e1, e2, ⟨G', hq, hRl, hF⟩, hce, hcv, hcl, stp⟩
  · cases hv
    obtain ⟨k1, k2, k3⟩ := vx_keep h0 e1 hS (fun _ _ h => h) (fun _ h => h) hL9 hF
    obtain ⟨t2, a1, b1⟩ := kk v G' hq p e R s m args below meth c T'.heap (locs ++ L9) (cells + yc) (slots + ys) CT ST ls C h1 h2 h3 h4 h5 h6 k3 (by rw [e1]; exact hRl) hl T' rfl X'
    exact ⟨t2, stp t2 a1, b1⟩
  · obtain ⟨k1, k2, k3⟩ := vx_keep h0 e1 hS (fun _ _ h => h) (fun _ h => h) hL9 hF
    have hce' : T'.heap[q]? = some ce := by rw [e1]; exact hce
    have kx : vx_W p V.1 e R s m args below meth c T'.heap (locs ++ L9) (cells + yc) (slots + ys) (vx_MQ below (zQc V Q) (zXC V QX) args s CT ST (zA V)) (F0 m pc ls st) q := by
      refine vx_out (E := E) (ce := ce) (fun x h => (C.2.2.2.2.2.2.2.2.2.2.2 x h).elim) C.2.2.2.2.1 hce' hcv hcl ?_ k3.2.2 (by omega) (by omega)
      intro t9 ht9 _
      exact ⟨G', hx E G' hq, by rw [ht9, e1]; exact hRl, k3.toF ht9⟩
    obtain ⟨t2, a1, b1⟩ := kx T' rfl X'
    exact ⟨t2, stp.trans a1, b1⟩
theorem Z.callV {V : zV} {M : zM} {fr : Nat} {Q : Option Value → zH → Prop} {QX : String → zH → Prop} {mc ms pc : Nat} {L : zLs} {st : List Value} {G : zH} {y : zM} {n fr9 yc ys idx : Nat} {As : List Value} {Qy : Option Value → zH → Prop} {Qyx : String → zH → Prop} {b c0 ci : Nat} {r : vw_C} {fs : List Value} (hV : zOk V) (hy : zMet V y fr9 yc ys (.ref b :: As) G Qy Qyx) (hc : zCb y n) (hlk : Cond.methodLink M.1.cls idx y.1 ∈ zT) (hin : Cond.instanceMethod y.1 ∈ zT) (hrc : V.2.2.1[ci]? = some r) (hsl : Cond.selects r.1 y.1 y.1 ∈ zT) (hG : G.2 b = some (.inr (c0, fs))) (hcm : c0 % 1000 = ci) (hd : decode M.2.1 pc = .ok (.invokevirtual idx, 3)) (hn : As.length = n) (hLl : L.length = M.2.2.1) (hcat : (st.map fun v => v.category).sum ≤ 8) (hf9 : fr9 + 1 ≤ fr) (hx : ∀ (E : String) (G' : zH), Qyx E G' → QX E G') (kk : ∀ (v : Option Value) (G' : zH), Qy v G' → Z V M fr Q QX mc ms (pc + 3) L (v.toList ++ st) G') : Z V M fr Q QX (mc + yc) (ms + ys) pc L (As.reverse ++ .ref b :: st) G := by
  intro p e R s m args below meth c H locs cells slots CT ST ls C h1 h2 h3 h4 h5 h6 hS hR hl
  have hts := C.2.2.2.2.2.2.2.1
  have hK : va_K V.2.1 V.2.2.1 (zTy V.2.1 V.2.2.2.1) s := C.2.2.2.2.2.2.2.2.1
  have hP := zPc_at (As := (.ref b :: As)) hV C hS hR
  have hml := hc.2.2.2.2
  have hsz : ls.size = M.2.2.1 := hl.1.trans hLl
  have hcb : CallB R s args M.1.cls idx y.1 y.2.1 y.2.2.1 y.2.2.2 (zW y) (zRm fr9 yc ys) yc ys n := ⟨rfl, rfl, (by show fr9 + 1 ≤ R.frames; omega), (by show 8 + (y.2.2.1 + 11) + 60 * fr9 ≤ R.locals; omega), zW_stay hts hc, List.mem_cons_self, hts _ hc.1, hts _ hc.2.1, hc.2.2.1, zCb_sig hc, hts _ hlk⟩
  subst hcm
  obtain ⟨-, r9, cellB, g0, g1, g2, g3, g4, g5, -⟩ := hR.2 b _ hG
  refine zAfter (a := ((.ref b :: As)).toArray) (yc := yc) (ys := ys) (st := st) ?_ C h1 h2 h3 h4 (by omega) (by omega) hS hl hx kk
  exact vx_runV (C := r.1) (n := n) ⟨C.1, C.2.1, C.2.2.1, C.2.2.2.2.2.1, hts⟩ hy ⟨hcb, hts _ hin, hts _ hsl⟩ ⟨hP.1, ⟨cellB, g1, g5, by rw [g2]; exact (hK.1 _ r hrc).2.1⟩, hP.2⟩ rfl hn hsz rfl (lv_room hcat) hd ⟨by omega, by omega⟩
theorem Z.callS {V : zV} {M : zM} {fr : Nat} {Q : Option Value → zH → Prop} {QX : String → zH → Prop} {mc ms pc : Nat} {L : zLs} {st : List Value} {G : zH} {y : zM} {n fr9 yc ys idx : Nat} {As : List Value} {Qy : Option Value → zH → Prop} {Qyx : String → zH → Prop}  (hV : zOk V) (hy : zMet V y fr9 yc ys As G Qy Qyx) (hc : zCb y n) (hlk : Cond.methodLink M.1.cls idx y.1 ∈ zT) (hst : Cond.static y.1 ∈ zT) (hd : decode M.2.1 pc = .ok (.invokestatic idx, 3)) (hn : As.length = n) (hLl : L.length = M.2.2.1) (hcat : (st.map fun v => v.category).sum ≤ 8) (hf9 : fr9 + 1 ≤ fr) (hx : ∀ (E : String) (G' : zH), Qyx E G' → QX E G') (kk : ∀ (v : Option Value) (G' : zH), Qy v G' → Z V M fr Q QX mc ms (pc + 3) L (v.toList ++ st) G') : Z V M fr Q QX (mc + yc) (ms + ys) pc L (As.reverse ++ st) G := by
  intro p e R s m args below meth c H locs cells slots CT ST ls C h1 h2 h3 h4 h5 h6 hS hR hl
  have hts := C.2.2.2.2.2.2.2.1
  have hK : va_K V.2.1 V.2.2.1 (zTy V.2.1 V.2.2.2.1) s := C.2.2.2.2.2.2.2.2.1
  have hP := zPc_at (As := As) hV C hS hR
  have hml := hc.2.2.2.2
  have hsz : ls.size = M.2.2.1 := hl.1.trans hLl
  have hcb : CallB R s args M.1.cls idx y.1 y.2.1 y.2.2.1 y.2.2.2 (zW y) (zRm fr9 yc ys) yc ys n := ⟨rfl, rfl, (by show fr9 + 1 ≤ R.frames; omega), (by show 8 + (y.2.2.1 + 11) + 60 * fr9 ≤ R.locals; omega), zW_stay hts hc, List.mem_cons_self, hts _ hc.1, hts _ hc.2.1, hc.2.2.1, zCb_sig hc, hts _ hlk⟩
  refine zAfter (a := (As).toArray) (yc := yc) (ys := ys) (st := st) ?_ C h1 h2 h3 h4 (by omega) (by omega) hS hl hx kk
  exact vx_runS (n := n) ⟨C.1, C.2.1, C.2.2.1, C.2.2.2.2.2.1, hts⟩ hy ⟨hcb, hts _ hst⟩ hP rfl hn hsz rfl (lv_room hcat) hd ⟨by omega, by omega⟩
theorem Z.callI {V : zV} {M : zM} {fr : Nat} {Q : Option Value → zH → Prop} {QX : String → zH → Prop} {mc ms pc : Nat} {L : zLs} {st : List Value} {G : zH} {y : zM} {n fr9 yc ys idx : Nat} {As : List Value} {Qy : Option Value → zH → Prop} {Qyx : String → zH → Prop} {b : Nat} (hV : zOk V) (hy : zMet V y fr9 yc ys (.ref b :: As) G Qy Qyx) (hc : zCb y n) (hlk : Cond.methodLink M.1.cls idx y.1 ∈ zT) (hin : Cond.instanceMethod y.1 ∈ zT) (hnm : y.1.name = "<init>") (hrt : y.2.2.2 = none) (hd : decode M.2.1 pc = .ok (.invokespecial idx, 3)) (hn : As.length = n) (hLl : L.length = M.2.2.1) (hcat : (st.map fun v => v.category).sum ≤ 8) (hf9 : fr9 + 1 ≤ fr) (hx : ∀ (E : String) (G' : zH), Qyx E G' → QX E G') (kk : ∀ (v : Option Value) (G' : zH), Qy v G' → Z V M fr Q QX mc ms (pc + 3) L (v.toList ++ st) G') : Z V M fr Q QX (mc + yc) (ms + ys) pc L (As.reverse ++ .ref b :: st) G := by
  intro p e R s m args below meth c H locs cells slots CT ST ls C h1 h2 h3 h4 h5 h6 hS hR hl
  have hts := C.2.2.2.2.2.2.2.1
  have hK : va_K V.2.1 V.2.2.1 (zTy V.2.1 V.2.2.2.1) s := C.2.2.2.2.2.2.2.2.1
  have hP := zPc_at (As := (.ref b :: As)) hV C hS hR
  have hml := hc.2.2.2.2
  have hsz : ls.size = M.2.2.1 := hl.1.trans hLl
  have hcb : CallB R s args M.1.cls idx y.1 y.2.1 y.2.2.1 none (zW y) (zRm fr9 yc ys) yc ys n := by rw [← hrt]; exact ⟨rfl, rfl, (by show fr9 + 1 ≤ R.frames; omega), (by show 8 + (y.2.2.1 + 11) + 60 * fr9 ≤ R.locals; omega), zW_stay hts hc, List.mem_cons_self, hts _ hc.1, hts _ hc.2.1, hc.2.2.1, zCb_sig hc, hts _ hlk⟩
  refine zAfter (a := ((.ref b :: As)).toArray) (yc := yc) (ys := ys) (st := st) ?_ C h1 h2 h3 h4 (by omega) (by omega) hS hl hx kk
  exact vx_runI (n := n) ⟨C.1, C.2.1, C.2.2.1, C.2.2.2.2.2.1, hts⟩ hy ⟨hcb, hnm, hts _ hin⟩ hP rfl hn hsz rfl (lv_room hcat) hd ⟨by omega, by omega⟩
theorem Z.callIN {V : zV} {M : zM} {fr : Nat} {Q : Option Value → zH → Prop} {QX : String → zH → Prop} {mc ms pc : Nat} {L : zLs} {st : List Value} {G : zH} {y : zM} {n fr9 yc ys idx : Nat} {As : List Value} {Qy : Option Value → zH → Prop} {Qyx : String → zH → Prop} {b : Nat} {host : String} (hV : zOk V) (hy : zMet V y fr9 yc ys (.ref b :: As) G Qy Qyx) (hc : zCb y n) (hlk : Cond.methodLinkNest M.1.cls idx y.1 host ∈ zT) (hin : Cond.instanceMethod y.1 ∈ zT) (hnm : y.1.name = "<init>") (hrt : y.2.2.2 = none) (hd : decode M.2.1 pc = .ok (.invokespecial idx, 3)) (hn : As.length = n) (hLl : L.length = M.2.2.1) (hcat : (st.map fun v => v.category).sum ≤ 8) (hf9 : fr9 + 1 ≤ fr) (hx : ∀ (E : String) (G' : zH), Qyx E G' → QX E G') (kk : ∀ (v : Option Value) (G' : zH), Qy v G' → Z V M fr Q QX mc ms (pc + 3) L (v.toList ++ st) G') : Z V M fr Q QX (mc + yc) (ms + ys) pc L (As.reverse ++ .ref b :: st) G := by
  intro p e R s m args below meth c H locs cells slots CT ST ls C h1 h2 h3 h4 h5 h6 hS hR hl
  have hts := C.2.2.2.2.2.2.2.1
  have hK : va_K V.2.1 V.2.2.1 (zTy V.2.1 V.2.2.2.1) s := C.2.2.2.2.2.2.2.2.1
  have hP := zPc_at (As := (.ref b :: As)) hV C hS hR
  have hml := hc.2.2.2.2
  have hsz : ls.size = M.2.2.1 := hl.1.trans hLl
  have hcb : va_CN R s args M.1.cls idx y.1 host y.2.1 y.2.2.1 none (zW y) (zRm fr9 yc ys) yc ys n := by rw [← hrt]; exact ⟨⟨rfl, rfl, (by show fr9 + 1 ≤ R.frames; omega), (by show 8 + (y.2.2.1 + 11) + 60 * fr9 ≤ R.locals; omega), zW_stay hts hc, List.mem_cons_self⟩, hts _ hc.1, hts _ hc.2.1, hc.2.2.1, zCb_sig hc, hts _ hlk⟩
  refine zAfter (a := ((.ref b :: As)).toArray) (yc := yc) (ys := ys) (st := st) ?_ C h1 h2 h3 h4 (by omega) (by omega) hS hl hx kk
  exact vx_runIN (n := n) ⟨C.1, C.2.1, C.2.2.1, C.2.2.2.2.2.1, hts⟩ hy ⟨hcb, hnm, hts _ hin⟩ hP rfl hn hsz rfl (lv_room hcat) hd ⟨by omega, by omega⟩
theorem Z.callSN {V : zV} {M : zM} {fr : Nat} {Q : Option Value → zH → Prop} {QX : String → zH → Prop} {mc ms pc : Nat} {L : zLs} {st : List Value} {G : zH} {y : zM} {n fr9 yc ys idx : Nat} {As : List Value} {Qy : Option Value → zH → Prop} {Qyx : String → zH → Prop} {host : String} (hV : zOk V) (hy : zMet V y fr9 yc ys As G Qy Qyx) (hc : zCb y n) (hlk : Cond.methodLinkNest M.1.cls idx y.1 host ∈ zT) (hst : Cond.static y.1 ∈ zT) (hd : decode M.2.1 pc = .ok (.invokestatic idx, 3)) (hn : As.length = n) (hLl : L.length = M.2.2.1) (hcat : (st.map fun v => v.category).sum ≤ 8) (hf9 : fr9 + 1 ≤ fr) (hx : ∀ (E : String) (G' : zH), Qyx E G' → QX E G') (kk : ∀ (v : Option Value) (G' : zH), Qy v G' → Z V M fr Q QX mc ms (pc + 3) L (v.toList ++ st) G') : Z V M fr Q QX (mc + yc) (ms + ys) pc L (As.reverse ++ st) G := by
  intro p e R s m args below meth c H locs cells slots CT ST ls C h1 h2 h3 h4 h5 h6 hS hR hl
  have hts := C.2.2.2.2.2.2.2.1
  have hK : va_K V.2.1 V.2.2.1 (zTy V.2.1 V.2.2.2.1) s := C.2.2.2.2.2.2.2.2.1
  have hP := zPc_at (As := As) hV C hS hR
  have hml := hc.2.2.2.2
  have hsz : ls.size = M.2.2.1 := hl.1.trans hLl
  have hcb : va_CN R s args M.1.cls idx y.1 host y.2.1 y.2.2.1 y.2.2.2 (zW y) (zRm fr9 yc ys) yc ys n := ⟨⟨rfl, rfl, (by show fr9 + 1 ≤ R.frames; omega), (by show 8 + (y.2.2.1 + 11) + 60 * fr9 ≤ R.locals; omega), zW_stay hts hc, List.mem_cons_self⟩, hts _ hc.1, hts _ hc.2.1, hc.2.2.1, zCb_sig hc, hts _ hlk⟩
  refine zAfter (a := (As).toArray) (yc := yc) (ys := ys) (st := st) ?_ C h1 h2 h3 h4 (by omega) (by omega) hS hl hx kk
  exact vx_runSN (n := n) ⟨C.1, C.2.1, C.2.2.1, C.2.2.2.2.2.1, hts⟩ hy ⟨hcb, hts _ hst, trivial⟩ hP rfl hn hsz rfl (lv_room hcat) hd ⟨by omega, by omega⟩
theorem Z.callSU {V : zV} {M : zM} {fr : Nat} {Q : Option Value → zH → Prop} {QX : String → zH → Prop} {mc ms pc : Nat} {L : zLs} {st : List Value} {G : zH} {y : zM} {n fr9 yc ys idx : Nat} {As : List Value} {Qy : Option Value → zH → Prop} {Qyx : String → zH → Prop} {b c0 ci : Nat} {r : vw_C} {fs : List Value} (hV : zOk V) (hy : zMet V y fr9 yc ys (.ref b :: As) G Qy Qyx) (hc : zCb y n) (hlk : Cond.methodLink M.1.cls idx y.1 ∈ zT) (hsm : Cond.sameMethod y.1.cls y.1.cls y.1.name y.1.desc ∈ zT) (hsu : Cond.superclass M.1.cls y.1.cls ∈ zT) (hin : Cond.instanceMethod y.1 ∈ zT) (hni : y.1.name ≠ "<init>") (hrc : V.2.2.1[ci]? = some r) (hG : G.2 b = some (.inr (c0, fs))) (hcm : c0 % 1000 = ci) (hd : decode M.2.1 pc = .ok (.invokespecial idx, 3)) (hn : As.length = n) (hLl : L.length = M.2.2.1) (hcat : (st.map fun v => v.category).sum ≤ 8) (hf9 : fr9 + 1 ≤ fr) (hx : ∀ (E : String) (G' : zH), Qyx E G' → QX E G') (kk : ∀ (v : Option Value) (G' : zH), Qy v G' → Z V M fr Q QX mc ms (pc + 3) L (v.toList ++ st) G') : Z V M fr Q QX (mc + yc) (ms + ys) pc L (As.reverse ++ .ref b :: st) G := by
  intro p e R s m args below meth c H locs cells slots CT ST ls C h1 h2 h3 h4 h5 h6 hS hR hl
  have hts := C.2.2.2.2.2.2.2.1
  have hK : va_K V.2.1 V.2.2.1 (zTy V.2.1 V.2.2.2.1) s := C.2.2.2.2.2.2.2.2.1
  have hP := zPc_at (As := (.ref b :: As)) hV C hS hR
  have hml := hc.2.2.2.2
  have hsz : ls.size = M.2.2.1 := hl.1.trans hLl
  have hcb : va_CS R s args M.1.cls idx y.1 y.2.1 y.2.2.1 y.2.2.2 (zW y) (zRm fr9 yc ys) yc ys n := ⟨⟨rfl, rfl, (by show fr9 + 1 ≤ R.frames; omega), (by show 8 + (y.2.2.1 + 11) + 60 * fr9 ≤ R.locals; omega), zW_stay hts hc, List.mem_cons_self⟩, hts _ hlk, hts _ hsm, hts _ hsu, hts _ hin, hts _ hc.2.1, hts _ hc.1, hni, zCb_sig hc⟩
  subst hcm
  obtain ⟨-, r9, cellB, g0, g1, g2, g3, g4, g5, -⟩ := hR.2 b _ hG
  refine zAfter (a := ((.ref b :: As)).toArray) (yc := yc) (ys := ys) (st := st) ?_ C h1 h2 h3 h4 (by omega) (by omega) hS hl hx kk
  exact vx_runSU (C := r.1) (n := n) (hK.1 _ r hrc).2 ⟨C.1, C.2.1, C.2.2.1, C.2.2.2.2.2.1, hts⟩ hy hcb ⟨hP.1, ⟨cellB, g1, g5, by rw [g2]; exact (hK.1 _ r hrc).2.1⟩, hP.2⟩ rfl hn hsz rfl (lv_room hcat) hd ⟨by omega, by omega⟩
theorem Z.throwS {V : zV} {M : zM} {fr : Nat} {Q : Option Value → zH → Prop} {QX : String → zH → Prop} {mc ms pc : Nat} {L : zLs} {st : List Value} {G : zH} {cls text : String} {names : List String} {ik is ic : Nat} (hV : zOk V) (hO : ∀ (U : State) (H : Heap), V.2.2.2.2.2 U H → vx_Zq Bundle.tN "UNASSIGNED_STACK" Bundle.steD (zA V) U H ∧ vx_Zq Bundle.tN "SUPPRESSED_SENTINEL" Bundle.listD (zA V) U H ∧ ∃ sa : Nat, vk_R M.1.cls is text sa U)
    (hcls : Bundle.fit cls = true) (hnames : ∀ n ∈ names, Bundle.fit n = true) (w1 : Cond.classLink M.1.cls ik cls ∈ zT) (w2 : Cond.initialized cls ∈ zT) (w3 : ∀ w ∈ vx_atS M.1.cls ic cls names, w ∈ zT) (hgood : ∀ w ∈ Cond.classLink M.1.cls ik cls :: Cond.initialized cls :: vx_atS M.1.cls ic cls names, vx_ot w = true)
    (hn : names.length ≤ 2) (hfr : 6 ≤ fr) (hLl : L.length = M.2.2.1) (hcat : (st.map fun v => v.category).sum ≤ 8)
    (d0 : decode M.2.1 pc = .ok (.new ik, 3)) (d3 : decode M.2.1 (pc + 3) = .ok (.dup, 1)) (d4 : decode M.2.1 (pc + 4) = .ok (.ldc is, 2)) (d6 : decode M.2.1 (pc + 6) = .ok (.invokespecial ic, 3)) (d9 : decode M.2.1 (pc + 9) = .ok (.athrow, 1))
    (hq : ∀ n : Nat, G.1 ≤ n → QX cls (n, G.2)) : Z V M fr Q QX (mc + 1) (ms + 6) pc L st G := by
  intro p e R s m args below meth c H locs cells slots CT ST ls C h1 h2 h3 h4 h5 h6 hS hR hl
  have hts := C.2.2.2.2.2.2.2.1
  obtain ⟨o1, o2, sa, o3⟩ := hO s s.heap C.2.2.2.2.2.2.2.2.2.1
  have hsz : ls.size = c.maxLocals := (hl.1.trans hLl).trans C.2.2.1.symm
  refine vx_throwS C.1 C.2.1 hV.1 C.2.2.2.2.2.1 hcls hnames (hts _ w1) (hts _ w2) o3 (fun w hw => hts w (w3 w hw)) hgood o1 o2 hS hsz d0 d3 d4 d6 d9 (fun x h => (C.2.2.2.2.2.2.2.2.2.2.2 x h).elim) (by omega) (by omega) (by omega) (by omega) C.2.2.2.2.1 ?_ hS.2.2 (by omega) (by omega)
  intro t _ hz ho
  have hsR := hR.1
  refine ⟨(t.heap.size, G.2), hq _ (by omega), ⟨rfl, fun a e9 he => ⟨(hR.2 a e9 he).1, (hR.2 a e9 he).2.kept (ho a (hR.2 a e9 he).2.lt)⟩⟩, Nat.le_trans hS.1 hz, fun q g1 g2 => (ho q (Nat.lt_of_lt_of_le g1 hS.1)).trans (hS.2.1 q g1 g2)⟩
