theorem Z.callU {V : zV} {M : zM} {fr : Nat} {Q : Option Value → zH → Prop} {QX : String → zH → Prop} {mc ms pc : Nat} {L : zLs} {st : List Value} {G : zH} {y : zM} {n fr9 yc ys idx : Nat} {As : List Value} {Qy : Option Value → zH → Prop} {Qyx : String → zH → Prop} {b c0 ci : Nat} {r : vw_C} {fs : List Value} {x : MethodName} {bx : ByteArray} {mx : Nat} {rx : Option FieldType} (hV : zOk V) (hy : zMet V y fr9 yc ys (.ref b :: As) G Qy Qyx) (hc : zCb y n) (hlk : Cond.methodLink M.1.cls idx x ∈ zT) (hsm : Cond.sameMethod x.cls x.cls x.name x.desc ∈ zT) (hix : Cond.instanceMethod x ∈ zT) (hcx : Cond.code x bx mx rx ∈ zT) (hnx : x.cls ≠ "java/lang/invoke/MethodHandle" ∧ x.cls ≠ "java/lang/invoke/VarHandle") (hsg : (parseMethodDescriptor x.desc).map (fun d => d.parameters.length) = some n) (hin : Cond.instanceMethod y.1 ∈ zT) (hrc : V.2.2.1[ci]? = some r) (hsl : Cond.selects r.1 x y.1 ∈ zT) (hG : G.2 b = some (.inr (c0, fs))) (hcm : c0 % 1000 = ci) (hd : decode M.2.1 pc = .ok (.invokevirtual idx, 3)) (hn : As.length = n) (hLl : L.length = M.2.2.1) (hcat : (st.map fun v => v.category).sum ≤ 8) (hf9 : fr9 + 1 ≤ fr) (hx : ∀ (E : String) (G' : zH), Qyx E G' → QX E G') (kk : ∀ (v : Option Value) (G' : zH), Qy v G' → Z V M fr Q QX mc ms (pc + 3) L (v.toList ++ st) G') : Z V M fr Q QX (mc + yc) (ms + ys) pc L (As.reverse ++ .ref b :: st) G := by
  intro p e R s m args below meth c H locs cells slots CT ST ls C h1 h2 h3 h4 h5 h6 hS hR hl
  have hts := C.2.2.2.2.2.2.2.1
  have hK : va_K V.2.1 V.2.2.1 (zTy V.2.1 V.2.2.2.1) s := C.2.2.2.2.2.2.2.2.1
  have hP := zPc_at (As := (.ref b :: As)) hV C hS hR
  have hml := hc.2.2.2.2
  have hsz : ls.size = M.2.2.1 := hl.1.trans hLl
  have hdecl : va_Decl s ⟨x.cls, x.name, x.desc⟩ := by
    obtain ⟨mk, methM, e1, e2, e3, -⟩ := Cond.instanceMethod_spec (hts _ hix)
    obtain ⟨methM', cM, e4, -, -, -, -, -, -, e5⟩ := Cond.code_spec e1 (hts _ hcx)
    cases e2.symm.trans e4
    exact ⟨mk, methM, e1, e2, e3, e5⟩
  have hsig : ∀ sig, parseMethodDescriptor x.desc = some sig → n = sig.parameters.length := by
    intro sig h9
    rw [h9] at hsg
    exact (Option.some.inj hsg).symm
  have hcb : va_CU R s args M.1.cls r.1 x.cls idx x y.1 y.2.1 y.2.2.1 y.2.2.2 (zW y) (zRm fr9 yc ys) yc ys n := ⟨⟨rfl, rfl, (by show fr9 + 1 ≤ R.frames; omega), (by show 8 + (y.2.2.1 + 11) + 60 * fr9 ≤ R.locals; omega), zW_stay hts hc, List.mem_cons_self⟩, hts _ hc.1, hts _ hc.2.1, hnx, hsig, hts _ hlk, hts _ hsm, hdecl, hts _ hsl, hts _ hin⟩
  subst hcm
  obtain ⟨-, r9, cellB, g0, g1, g2, g3, g4, g5, -⟩ := hR.2 b _ hG
  refine zAfter (a := ((.ref b :: As)).toArray) (yc := yc) (ys := ys) (st := st) ?_ C h1 h2 h3 h4 (by omega) (by omega) hS hl hx kk
  exact vx_runU (C := r.1) (owner := x.cls) (n := n) ⟨C.1, C.2.1, C.2.2.1, C.2.2.2.2.2.1, hts⟩ hy hcb ⟨hP.1, ⟨cellB, g1, g5, by rw [g2]; exact (hK.1 _ r hrc).2.1⟩, hP.2⟩ rfl hn hsz rfl (lv_room hcat) hd ⟨by omega, by omega⟩
theorem yC.U {V : zV} {M : zM} {fr : Nat} {pc : Nat} {L : zLs} {st : List Value} {y : zM} {n fr9 idx b c0 ci : Nat} {As : List Value} {r : vw_C} {fs : List Value} {H : zH} {x : MethodName} {bx : ByteArray} {mx : Nat} {rx : Option FieldType} (hV : zOk V) (hc : zCb y n) (hlk : Cond.methodLink M.1.cls idx x ∈ zT) (hsm : Cond.sameMethod x.cls x.cls x.name x.desc ∈ zT) (hix : Cond.instanceMethod x ∈ zT) (hcx : Cond.code x bx mx rx ∈ zT) (hnx : x.cls ≠ "java/lang/invoke/MethodHandle" ∧ x.cls ≠ "java/lang/invoke/VarHandle") (hsg : (parseMethodDescriptor x.desc).map (fun d => d.parameters.length) = some n) (hin : Cond.instanceMethod y.1 ∈ zT) (hrc : V.2.2.1[ci]? = some r) (hsl : Cond.selects r.1 x y.1 ∈ zT)
    (hd : decode M.2.1 pc = .ok (.invokevirtual idx, 3)) (hn : As.length = n) (hLl : L.length = M.2.2.1) (hcat : (st.map fun v => v.category).sum ≤ 8) (hf9 : fr9 + 1 ≤ fr) (hG : H.2 b = some (.inr (c0, fs))) (hcm : c0 % 1000 = ci) : yCall V M fr y pc L (As.reverse ++ .ref b :: st) st H (.ref b :: As) fr9 :=
  fun _ _ _ _ _ _ _ _ hy hx kk => Z.callU hV hy hc hlk hsm hix hcx hnx hsg hin hrc hsl hG hcm hd hn hLl hcat hf9 hx kk
theorem sx_SB_length : Cond.selects "java/lang/StringBuilder" m_AB_length.1 m_SB_length.1 ∈ zT := zU5 170 (by decide +kernel) rfl
