/-! The law's own methods: bodies with a table of handlers. -/
abbrev zHh : Type := List (Nat × Nat × Nat × Nat)
def zWh (M : zM) (hh : zHh) : List Cond := .codeWith M.1 M.2.1 M.2.2.1 M.2.2.2 hh :: zT
def zMeh (V : zV) (M : zM) (hh : zHh) (fr mc ms : Nat) (As : List Value) (G : zH) (Q : Option Value → zH → Prop) (QX : String → zH → Prop) : Prop :=
  vx_Met V.1 M.1 (zWh M hh) (zRm fr mc ms) (zPc V As G) (zQc V Q) (zXC V QX) mc ms (zA V)
def zCh (V : zV) (M : zM) (hh : zHh) (p : Program) (R : Room) (s : State) (m : MethodId) (args : Array Value) (meth : Method) (c : Code) : Prop :=
  p.tables.exec = Jvm.exec ∧ c.code = M.2.1 ∧ c.maxLocals = M.2.2.1 ∧ meth.sig.returnType = M.2.2.2 ∧ meth.locks = false ∧ s.vm.findClass M.1.cls = some m.cls ∧ meth.name = M.1.name ∧ (∀ w ∈ zT, w.before args s = true) ∧ zK V s ∧ V.2.2.2.2.2 s s.heap ∧ V.2.2.2.2.1 ≤ s.heap.size ∧ c.exceptionTable.toList = tableOf hh
def Zh (V : zV) (M : zM) (hh : zHh) (fr : Nat) (Q : Option Value → zH → Prop) (QX : String → zH → Prop) (mc ms pc : Nat) (L : zLs) (st : List Value) (G : zH) : Prop :=
  ∀ (p : Program) (e : Env) (R : Room) (s : State) (m : MethodId) (args : Array Value) (below : List Frame) (meth : Method) (c : Code) (H : Heap) (locs : List Loc) (cells slots CT ST : Nat) (ls : Array Slot),
    zCh V M hh p R s m args meth c → fr ≤ R.frames → 60 * fr ≤ R.locals → CT ≤ R.cells → ST ≤ R.slots → cells + mc ≤ CT → slots + ms ≤ ST → va_S (zA V) s.heap H locs → zRl V G H → zL ls L →
    W p V.1 e R s m args below meth c H locs cells slots (vx_MQ below (zQc V Q) (zXC V QX) args s CT ST (zA V)) (F0 m pc ls st)
section ZH
variable {V : zV} {M : zM} {hh : zHh} {fr : Nat} {Q : Option Value → zH → Prop} {QX : String → zH → Prop} {mc ms pc : Nat} {L : zLs} {st : List Value} {G : zH}
theorem Zh.blk {pc' : Nat} {L' : zLs} {st' : List Value} {sg : zSg} (hs : zSeg M.2.1 sg pc = true) (hr : zRun sg pc L st = some (pc', L', st'))
    (k : Zh V M hh fr Q QX mc ms pc' L' st' G) : Zh V M hh fr Q QX mc ms pc L st G := by
  intro p e R s m args below meth c H locs cells slots CT ST ls C h1 h2 h3 h4 h5 h6 hS hR hl
  exact zRun_sound C.1 C.2.1 sg pc L st _ ls hs hr hl (fun ls' hl' => k p e R s m args below meth c H locs cells slots CT ST ls' C h1 h2 h3 h4 h5 h6 hS hR hl')
theorem Zh.room {fr' mc' ms' : Nat} (hf : fr' ≤ fr) (hc : mc' ≤ mc) (hs : ms' ≤ ms) (k : Zh V M hh fr' Q QX mc' ms' pc L st G) : Zh V M hh fr Q QX mc ms pc L st G := by
  intro p e R s m args below meth c H locs cells slots CT ST ls C h1 h2 h3 h4 h5 h6 hS hR hl
  exact k p e R s m args below meth c H locs cells slots CT ST ls C (by omega) (by omega) h3 h4 (by omega) (by omega) hS hR hl
theorem Zh.goto {off : Int} {tgt : Nat} (hd : decode M.2.1 pc = .ok (.goto off, 3)) (ht : (pc : Int) + off = (tgt : Int)) (k : Zh V M hh fr Q QX mc ms tgt L st G) : Zh V M hh fr Q QX mc ms pc L st G := by
  intro p e R s m args below meth c H locs cells slots CT ST ls C h1 h2 h3 h4 h5 h6 hS hR hl
  exact lv_goto C.1 C.2.1 hd ht (k p e R s m args below meth c H locs cells slots CT ST ls C h1 h2 h3 h4 h5 h6 hS hR hl)
theorem Zh.if_eq {x : Int32} {off : Int} {tgt : Nat} (hd : decode M.2.1 pc = .ok (.ifCond .eq off, 3)) (ht : (pc : Int) + off = (tgt : Int)) (kt : x = 0 → Zh V M hh fr Q QX mc ms tgt L st G) (kf : ¬ x = 0 → Zh V M hh fr Q QX mc ms (pc + 3) L st G) : Zh V M hh fr Q QX mc ms pc L (.int x :: st) G := by
  intro p e R s m args below meth c H locs cells slots CT ST ls C h1 h2 h3 h4 h5 h6 hS hR hl
  exact lv_if_eq C.1 C.2.1 hd ht (fun q => (kt q) p e R s m args below meth c H locs cells slots CT ST ls C h1 h2 h3 h4 h5 h6 hS hR hl) (fun q => kf q p e R s m args below meth c H locs cells slots CT ST ls C h1 h2 h3 h4 h5 h6 hS hR hl)
theorem Zh.iret {ty : FieldType} {v : Int32} (hr : M.2.2.2 = some ty) (hn : narrow ty (.int v) = .int v) (hd : decode M.2.1 pc = .ok (.ireturn, 1)) (hq : Q (some (.int v)) G) : Zh V M hh fr Q QX mc ms pc L [.int v] G := by
  intro p e R s m args below meth c H locs cells slots CT ST ls C h1 h2 h3 h4 h5 h6 hS hR hl
  refine W.widen (k := CT) (n := ST) (by omega) (by omega) (vx_ret (W.zret C.1 C.2.1 (by rw [C.2.2.2.1]; exact hr) hn (fun t hT hW => ⟨some (.int v), G, rfl, hq, by rw [hT]; exact hR, hS.toF hT⟩) hS.2.2 hd C.2.2.2.2.1))
/-- a nest mate's private field -/
def zFn (cl : List vw_C) (own : String) (idx ci k : Nat) (ty : FieldType) (host : String) : Prop := ∃ (C : String) (T : u_T) (N : Nat) (t0 : Nat → FieldType),
  cl[ci]? = some (C, T, N) ∧ k < N ∧ (∀ w ∈ u_ws C T N, w ∈ zT) ∧ Cond.fieldLinkNest own idx (T k).1 (T k).2.1 (T k).2.2.1 host ∈ zT ∧
  (∀ j, j < N → parseFieldDescriptor (T j).2.2.1 = some (t0 j)) ∧ (∀ a, a < N → ∀ b, b < N → a ≠ b → (T a).2.1 ≠ (T b).2.1) ∧ (T k).2.2.2 = false ∧ t0 k = ty
theorem Zh.putn {a ci k idx : Nat} {fs : List Value} {v : Value} {ty : FieldType} {host : String} (hf : zFn V.2.2.1 M.1.cls idx ci k ty host) (hci : ci < 1000) (hd : decode M.2.1 pc = .ok (.putfield idx, 3)) (hG : G.2 a = some (.inr (ci, fs))) (hlt : k < fs.length) (hn : narrow ty v = v) (hfit : fits ty v = true) (kk : Zh V M hh fr Q QX mc ms (pc + 3) L st (zUp G a (.inr (ci, fs.set k v)))) : Zh V M hh fr Q QX mc ms pc L (v :: .ref a :: st) G := by
  intro p e R s m args below meth c H locs cells slots CT ST ls C h1 h2 h3 h4 h5 h6 hS hR hl
  have e9 : ci % 1000 = ci := Nat.mod_eq_of_lt hci
  obtain ⟨C0, T, N, t0, hc, hk, hin, hlink, ht0, hnm, hfin, hty⟩ := hf
  have hts := C.2.2.2.2.2.2.2.1
  have hK : va_K V.2.1 V.2.2.1 (zTy V.2.1 V.2.2.2.1) s := C.2.2.2.2.2.2.2.2.1
  have hap := va_apart (own := M.1.cls) hts hin t0 ht0 hnm hK hc
  obtain ⟨hB0, r, cell, g1, q1, q2, q3, q3b, q3c, q4⟩ := hR.2 a _ hG
  have hBa : zA V a := hB0 (by show decide (1000 ≤ ci) = false; exact decide_eq_false (by omega))
  have q3 : cell.vm = .none := q3 hci
  dsimp only at g1 q2 q4
  rw [e9] at g1 q2 q4
  have hr : r = (C0, T, N) := Option.some.inj (g1.symm.trans hc)
  subst hr
  obtain ⟨hSl, hfc, kC, hkC, hkind⟩ := hK.1 ci _ hc
  obtain ⟨cf, kf, fi, f, hi, hsl⟩ := hSl k hk
  have hlay := hts _ (hin _ (u_in_lay hk))
  unfold u_lay at hlay
  have hst := (u_facts hfc hkC (u_lays hts hin hk) hi).1
  have hdd : parseFieldDescriptor (T k).2.2.1 = some ty := by rw [ht0 k hk, hty]
  have hsz9 : V.2.1.2 ci k < cell.slots.size := k2_hasslot (q4 k _ hk (List.getElem?_eq_getElem hlt))
  rw [if_neg (by rw [hfin]; decide)] at hlay
  have h9 := u_store hfc hkC hkind hlay hi hdd hn hfit
  refine va_WputK C.1 C.2.1 (f := f) C.2.2.2.2.2.1 (hts _ hlink) hi hst (by rw [q2]; exact h9) q1 q3 (by rw [hsl]; exact hsz9) rfl rfl hd fun H' e1 e2 e3 => ?_
  rw [hsl] at e1 ⊢
  refine kk p e R s m args below meth c H' _ cells slots CT ST ls C h1 h2 h3 h4 h5 h6 (hS.put1 hBa e2 e3) (hR.up hBa ?_ e2 e3) hl
  refine ⟨_, _, (by rw [e9]; exact hc), e1, (by rw [e9]; exact q2), fun _ => q3, q3b, q3c, fun j w hj hw => ?_⟩
  dsimp only
  rw [e9]
  by_cases hjk : j = k
  · subst hjk
    rw [List.getElem?_set_self hlt] at hw
    cases hw
    simp [Cell.setSlot, hsz9]
  · rw [List.getElem?_set_ne (fun q => hjk q.symm)] at hw
    have := q4 j w hj hw
    simp only [Cell.setSlot]
    rw [Array.getElem?_setIfInBounds_ne (fun q => hap j k hj hk hjk q.symm)]
    exact this
/-- the row of the table that takes E at pc goes to hp; those ahead let it pass -/
def zRow (V : zV) (own : String) (hh : zHh) (pc : Nat) (E : String) (hp : Nat) : Prop := ∃ (pre suf : List ExceptionTableEntry) (x : ExceptionTableEntry) (nm : String), tableOf hh = pre ++ x :: suf ∧
  (∀ z ∈ pre, z.catchType ≠ 0 ∧ ∃ n2 : String, Cond.classLink own z.catchType n2 ∈ zT ∧ ∀ (U : State) (H : Heap), V.2.2.2.2.2 U H → va_Nc E n2 U) ∧ covers x pc = true ∧ x.catchType ≠ 0 ∧ Cond.classLink own x.catchType nm ∈ zT ∧ Cond.castable E nm ∈ zT ∧ x.handlerPc = hp
theorem zPc_ath {p : Program} {R : Room} {s : State} {m : MethodId} {args : Array Value} {meth : Method} {c : Code} {H : Heap} {locs : List Loc} {As : List Value} (hV : zOk V) (C : zCh V M hh p R s m args meth c) (hS : va_S (zA V) s.heap H locs) (hR : zRl V G H) :
    FrameBlind (zPc V As G) ∧ ∀ U : State, U.heap = H → s.WarmedH U.vm → zPc V As G As.toArray U := by
  refine ⟨fun a U g mk h => ⟨h.1, h.2.1, h.2.2.1, hV.2.1 U _ _ rfl h.2.2.2.1, h.2.2.2.2⟩, fun U hU hW => ⟨rfl, by rw [hU]; exact hR, zKn.moved hW.alike C.2.2.2.2.2.2.2.2.1, ?_, ?_⟩⟩
  · rw [hU]
    exact hV.2.2 s U s.heap H hW (fun q h1 h2 => hS.2.1 q h1 h2) hS.1 C.2.2.2.2.2.2.2.2.2.1
  · rw [hU]
    exact Nat.le_trans C.2.2.2.2.2.2.2.2.2.2.1 hS.1
theorem zAfterH {Qy : Option Value → zH → Prop} {Qyx : String → zH → Prop} {yc ys : Nat} {st0 : List Value} {p : Program} {e : Env} {R : Room} {s : State} {m : MethodId} {args : Array Value} {below : List Frame} {meth : Method} {c : Code} {H : Heap} {locs : List Loc} {cells slots CT ST : Nat} {ls : Array Slot} {a : Array Value}
    (hr : vx_Run p V.1 e R s m args below meth c H locs cells slots yc ys (F0 m pc ls st0) st (zQc V Qy a) (zXC V Qyx) (zA V)) (C : zCh V M hh p R s m args meth c) (h1 : fr ≤ R.frames) (h2 : 60 * fr ≤ R.locals) (h3 : CT ≤ R.cells) (h4 : ST ≤ R.slots) (h5 : cells + yc + mc ≤ CT) (h6 : slots + ys + ms ≤ ST) (hS : va_S (zA V) s.heap H locs) (hl : zL ls L)
    (hx : ∀ (E : String) (G' : zH), Qyx E G' → ∃ hp : Nat, zRow V M.1.cls hh pc E hp ∧ ∀ q9 : Nat, Zh V M hh fr Q QX mc ms hp L [.ref q9] G') (kk : ∀ (v : Option Value) (G' : zH), Qy v G' → Zh V M hh fr Q QX mc ms (pc + 3) L (v.toList ++ st) G') :
    W p V.1 e R s m args below meth c H locs cells slots (vx_MQ below (zQc V Q) (zXC V QX) args s CT ST (zA V)) (F0 m pc ls st0) := by
  intro T hT X
  rcases hr T hT X with ⟨v, st₀, t, T', L9, h0, X', hL9, e1, e2, ⟨v', G', hv, hq, hRl, hF⟩, stp⟩ | ⟨q, st₀, t, T', L9, E, ce, h0, X', hL9, e1, e2, ⟨G', hq, hRl, hF⟩, hce, hcv, hcl, stp⟩
  · cases hv
    obtain ⟨k1, k2, k3⟩ := vx_keep h0 e1 hS (fun _ _ h => h) (fun _ h => h) hL9 hF
    obtain ⟨t2, a1, b1⟩ := kk v G' hq p e R s m args below meth c T'.heap (locs ++ L9) (cells + yc) (slots + ys) CT ST ls C h1 h2 h3 h4 h5 h6 k3 (by rw [e1]; exact hRl) hl T' rfl X'
    exact ⟨t2, stp t2 a1, b1⟩
  · obtain ⟨k1, k2, k3⟩ := vx_keep h0 e1 hS (fun _ _ h => h) (fun _ h => h) hL9 hF
    have hce' : T'.heap[q]? = some ce := by rw [e1]; exact hce
    obtain ⟨hp, ⟨pre, suf, x, nm, z1, z2, z3, z4, z5, z6, z7⟩, kx⟩ := hx E G' hq
    have hts := C.2.2.2.2.2.2.2.1
    have kz : vx_W p V.1 e R s m args below meth c T'.heap (locs ++ L9) (cells + yc) (slots + ys) (vx_MQ below (zQc V Q) (zXC V QX) args s CT ST (zA V)) (F0 m pc ls st) q := by
      refine vx_catch (own := M.1.cls) (name := nm) (E := E) (ce := ce) C.2.2.2.2.2.1 pre x suf (by rw [C.2.2.2.2.2.2.2.2.2.2.2]; exact z1) (fun z hz => Or.inr ⟨(z2 z hz).1, ?_⟩) z3 z4 (hts _ z5) (hts _ z6) hce' hcv hcl ?_
      · obtain ⟨n2, w1, w2⟩ := (z2 z hz).2
        exact ⟨n2, hts _ w1, w2 s s.heap C.2.2.2.2.2.2.2.2.2.1⟩
      · rw [z7]
        exact kx q p e R s m args below meth c T'.heap (locs ++ L9) (cells + yc) (slots + ys) CT ST ls C h1 h2 h3 h4 h5 h6 k3 (by rw [e1]; exact hRl) hl
    obtain ⟨t2, a1, b1⟩ := kz T' rfl X'
    exact ⟨t2, stp.trans a1, b1⟩
theorem Zh.callV {y : zM} {n fr9 yc ys idx : Nat} {As : List Value} {Qy : Option Value → zH → Prop} {Qyx : String → zH → Prop} {b c0 ci : Nat} {r : vw_C} {fs : List Value} (hV : zOk V) (hy : zMet V y fr9 yc ys (.ref b :: As) G Qy Qyx) (hc : zCb y n) (hlk : Cond.methodLink M.1.cls idx y.1 ∈ zT) (hin : Cond.instanceMethod y.1 ∈ zT) (hrc : V.2.2.1[ci]? = some r) (hsl : Cond.selects r.1 y.1 y.1 ∈ zT) (hG : G.2 b = some (.inr (c0, fs))) (hcm : c0 % 1000 = ci) (hd : decode M.2.1 pc = .ok (.invokevirtual idx, 3)) (hn : As.length = n) (hLl : L.length = M.2.2.1) (hcat : (st.map fun v => v.category).sum ≤ 8) (hf9 : fr9 + 1 ≤ fr) (hx : ∀ (E : String) (G' : zH), Qyx E G' → ∃ hp : Nat, zRow V M.1.cls hh pc E hp ∧ ∀ q9 : Nat, Zh V M hh fr Q QX mc ms hp L [.ref q9] G') (kk : ∀ (v : Option Value) (G' : zH), Qy v G' → Zh V M hh fr Q QX mc ms (pc + 3) L (v.toList ++ st) G') : Zh V M hh fr Q QX (mc + yc) (ms + ys) pc L (As.reverse ++ .ref b :: st) G := by
  intro p e R s m args below meth c H locs cells slots CT ST ls C h1 h2 h3 h4 h5 h6 hS hR hl
  have hts := C.2.2.2.2.2.2.2.1
  have hK : va_K V.2.1 V.2.2.1 (zTy V.2.1 V.2.2.2.1) s := C.2.2.2.2.2.2.2.2.1
  have hP := zPc_ath (As := (.ref b :: As)) hV C hS hR
  have hml := hc.2.2.2.2
  have hsz : ls.size = M.2.2.1 := hl.1.trans hLl
  have hcb : CallB R s args M.1.cls idx y.1 y.2.1 y.2.2.1 y.2.2.2 (zW y) (zRm fr9 yc ys) yc ys n := ⟨rfl, rfl, (by show fr9 + 1 ≤ R.frames; omega), (by show 8 + (y.2.2.1 + 11) + 60 * fr9 ≤ R.locals; omega), zW_stay hts hc, List.mem_cons_self, hts _ hc.1, hts _ hc.2.1, hc.2.2.1, zCb_sig hc, hts _ hlk⟩
  subst hcm
  obtain ⟨-, r9, cellB, g0, g1, g2, g3, g4, g5, -⟩ := hR.2 b _ hG
  refine zAfterH (a := ((.ref b :: As)).toArray) (yc := yc) (ys := ys) (st := st) ?_ C h1 h2 h3 h4 (by omega) (by omega) hS hl hx kk
  exact vx_runV (C := r.1) (n := n) ⟨C.1, C.2.1, C.2.2.1, C.2.2.2.2.2.1, hts⟩ hy ⟨hcb, hts _ hin, hts _ hsl⟩ ⟨hP.1, ⟨cellB, g1, g5, by rw [g2]; exact (hK.1 _ r hrc).2.1⟩, hP.2⟩ rfl hn hsz rfl (lv_room hcat) hd ⟨by omega, by omega⟩
end ZH
/-- the contract out of the body's walk -/
theorem zMeh.of {V : zV} {M : zM} {hh : zHh} {fr mc ms : Nat} {As : List Value} {G : zH} {Q : Option Value → zH → Prop} {QX : String → zH → Prop} (hy : plainName M.1.cls = true) (hn : (lg_sl As).length ≤ M.2.2.1)
    (L : zLs) (hL : ∀ ls, lv_has ls M.2.2.1 (lv_args 0 As) → zL ls L) (k : Zh V M hh fr Q QX mc ms 0 L [] G) : zMeh V M hh fr mc ms As G Q QX := by
  refine vx_ofWH (cc := M.2.1) (maxL := M.2.2.1) (ret := M.2.2.2) (hh := hh) hy rfl ?_
  intro p e s m args below meth c s₁ Bd hml hv
  obtain ⟨rfl, hRl, hK, hO, hB⟩ := hv
  have hts := atoms_spec (ws := zWh M hh) Bd.pre
  have hex := vx_table (x := M.1) Bd (hts _ List.mem_cons_self)
  have hl := lv_entry As hn
  rw [lg_entry_eq]
  generalize (lg_sl As ++ List.replicate (M.2.2.1 - (lg_sl As).length) Slot.unset).toArray = ls at hl ⊢
  exact k p e _ s m _ below meth c s.heap [] 0 0 mc ms ls
    ⟨Bd.exec, Bd.bytes, hml, Bd.returns, Bd.notSynchronized, findClass_of_methodNamed Bd.named, (name_of_methodNamed Bd.named Bd.method).1, fun w hw => hts w (List.mem_cons_of_mem _ hw), hK, hO, hB, hex⟩
    (Nat.le_refl _) (Nat.le_refl _) (Nat.le_refl _) (Nat.le_refl _) (by omega) (by omega) va_S.rf hRl (hL ls hl)
/-- the law calls one of them -/
def zCbh (y : zM) (hh : zHh) (n : Nat) : Prop := Cond.codeWith y.1 y.2.1 y.2.2.1 y.2.2.2 hh ∈ zT ∧ Cond.initialized y.1.cls ∈ zT ∧ (y.1.cls ≠ "java/lang/invoke/MethodHandle" ∧ y.1.cls ≠ "java/lang/invoke/VarHandle") ∧ (parseMethodDescriptor y.1.desc).map (fun d => d.parameters.length) = some n ∧ y.2.2.1 ≤ 41
theorem Z.callH {V : zV} {M : zM} {fr : Nat} {Q : Option Value → zH → Prop} {QX : String → zH → Prop} {mc ms pc : Nat} {L : zLs} {st : List Value} {G : zH} {y : zM} {hh : zHh} {n fr9 yc ys idx : Nat} {As : List Value} {Qy : Option Value → zH → Prop} {Qyx : String → zH → Prop} (hV : zOk V) (hy : zMeh V y hh fr9 yc ys As G Qy Qyx) (hc : zCbh y hh n) (hlk : Cond.methodLink M.1.cls idx y.1 ∈ zT) (hst : Cond.static y.1 ∈ zT) (hd : decode M.2.1 pc = .ok (.invokestatic idx, 3)) (hn : As.length = n) (hLl : L.length = M.2.2.1) (hcat : (st.map fun v => v.category).sum ≤ 8) (hf9 : fr9 + 1 ≤ fr) (hx : ∀ (E : String) (G' : zH), Qyx E G' → QX E G') (kk : ∀ (v : Option Value) (G' : zH), Qy v G' → Z V M fr Q QX mc ms (pc + 3) L (v.toList ++ st) G') : Z V M fr Q QX (mc + yc) (ms + ys) pc L (As.reverse ++ st) G := by
  intro p e R s m args below meth c H locs cells slots CT ST ls C h1 h2 h3 h4 h5 h6 hS hR hl
  have hts := C.2.2.2.2.2.2.2.1
  have hK : va_K V.2.1 V.2.2.1 (zTy V.2.1 V.2.2.2.1) s := C.2.2.2.2.2.2.2.2.1
  have hP := zPc_at (As := As) hV C hS hR
  have hml := hc.2.2.2.2
  have hsz : ls.size = M.2.2.1 := hl.1.trans hLl
  have hws : ∀ w ∈ zWh y hh, ∀ (a' : Array Value) (U : State), s.WarmedH U.vm → w.before a' U = true := by
    intro w hw a' U hW
    rcases List.mem_cons.mp hw with h9 | h9
    · rw [h9]; exact zT_stay hW hts _ hc.1
    · exact zT_stay hW hts _ h9
  have hsg : ∀ sig, parseMethodDescriptor y.1.desc = some sig → n = sig.parameters.length := by
    intro sig h9
    have q2 := hc.2.2.2.1
    rw [h9] at q2
    exact (Option.some.inj q2).symm
  have hcb : vx_CSW R s args M.1.cls idx y.1 y.2.1 y.2.2.1 y.2.2.2 hh (zWh y hh) (zRm fr9 yc ys) yc ys n := ⟨⟨rfl, rfl, (by show fr9 + 1 ≤ R.frames; omega), (by show 8 + (y.2.2.1 + 11) + 60 * fr9 ≤ R.locals; omega), hws, List.mem_cons_self⟩, hts _ hc.1, hts _ hc.2.1, hc.2.2.1, hsg, hts _ hlk, hts _ hst⟩
  refine zAfter (a := (As).toArray) (yc := yc) (ys := ys) (st := st) ?_ C h1 h2 h3 h4 (by omega) (by omega) hS hl hx kk
  exact vx_runSX (n := n) ⟨C.1, C.2.1, C.2.2.1, C.2.2.2.2.2.1, hts⟩ hy hcb hP rfl hn hsz rfl (lv_room hcat) hd ⟨by omega, by omega⟩
/-- a call of the class, its refusals told by number -/
def oV (E : Nat × (Nat → String)) (c : Nat) (v : Value) (G : gH) : gR := if c = 0 then some (.inr (some v), G) else gThrow (E.2 c) G
theorem oV_oI {E : Nat × (Nat → String)} {c : Nat} {a : Int32} {G : gH} : oI E c a G = oV E c (.int a) G := rfl
theorem oV_no {E : Nat × (Nat → String)} {c : Nat} {v : Value} {G : gH} (h : ¬ c = 0) : oV E c v G = some (.inl (E.2 c), (G.1 + 6, (G.2.1 + 1, G.2.2))) := by
  unfold oV; rw [if_neg h]; rfl
def zNo (O : State → Heap → Prop) : Prop := ∀ (U : State) (H : Heap), O U H → va_Nc "java/lang/IllegalArgumentException" "java/lang/IndexOutOfBoundsException" U ∧ va_Nc "java/lang/IllegalStateException" "java/lang/IndexOutOfBoundsException" U ∧ va_Nc "java/lang/IllegalStateException" "java/lang/IllegalArgumentException" U
/-- what the law's own method leaves: the code, the class's cells, its answer in Out -/
def wQ (q c k : Nat) (v2 : Value) (H1 : gH) : Option Value → zH → Prop := fun v G' => v = some (.int (nI c)) ∧ H1.2.1 ≤ G'.1 ∧ (∀ z, z ≠ q → G'.2 z = H1.2.2 z) ∧ ∃ fs, G'.2 q = some (.inr (7, fs)) ∧ fs.length = 2 ∧ (c = 0 → fs[k]? = some v2)
theorem Zh.oV {l : Launch} {D : va_G} {B : Nat} {O : State → Heap → Prop} {M : zM} {hh : zHh} {fr : Nat} {Q : Option Value → zH → Prop} {QX : String → zH → Prop} {pc : Nat} {L : zLs} {st : List Value} {y : zM} {n fr9 idx : Nat} {As : List Value} {b : Nat} {fs : List Value} {E : Nat × (Nat → String)} {c : Nat} {a : Value} {G H1 : gH} {r : gR} (hV : zOk (zVm l D B O)) (hg : gMet (zVm l D B O) y fr9 (.ref b :: As) G r) (hr : r = oV E c a H1) (h1 : H1.1 ≤ G.1 + 840) (h2 : H1.2.1 ≤ G.2.1 + 8) (h3 : G.2.1 ≤ H1.2.1) (hc : zCb y n) (hlk : Cond.methodLink M.1.cls idx y.1 ∈ zT) (hin : Cond.instanceMethod y.1 ∈ zT) (hsl : Cond.selects "Partlister" y.1 y.1 ∈ zT) (hG : G.2.2 b = some (.inr (3, fs))) (hd : decode M.2.1 pc = .ok (.invokevirtual idx, 3)) (hn : As.length = n) (hLl : L.length = M.2.2.1) (hcat : (st.map fun v => v.category).sum ≤ 8) (hf9 : fr9 + 1 ≤ fr)
    (hx : 0 < c → ∃ hp : Nat, zRow (zVm l D B O) M.1.cls hh pc (E.2 c) hp ∧ ∀ (G' : zH) (q9 : Nat), G.2.1 ≤ G'.1 → H1.2.1 ≤ G'.1 → G'.2 = H1.2.2 → Zh (zVm l D B O) M hh fr Q QX 0 0 hp L [.ref q9] G')
    (k0 : c = 0 → Zh (zVm l D B O) M hh fr Q QX 0 0 (pc + 3) L (a :: st) H1.2) : Zh (zVm l D B O) M hh fr Q QX 9 846 pc L (As.reverse ++ .ref b :: st) G.2 := by
  by_cases h0 : c = 0
  · subst h0
    obtain ⟨⟨g1, g2⟩, g3⟩ := hg _ _ hr
    refine Zh.room (mc' := 0 + (H1.2.1 - G.2.1)) (ms' := 0 + (H1.1 - G.1)) (Nat.le_refl _) (by omega) (by omega) ?_
    refine Zh.callV (r := ("Partlister", T_X, 5)) hV g3 hc hlk hin rfl hsl hG rfl hd hn hLl hcat hf9 ?_ ?_
    · intro E' G' hq
      exact absurd hq.1 (by simp)
    · intro v G' hq
      obtain ⟨e1, e2⟩ := hq
      obtain rfl := Sum.inr.inj e1
      rw [e2]
      exact k0 rfl
  · have hr' : r = some (.inl (E.2 c), (H1.1 + 6, (H1.2.1 + 1, H1.2.2))) := by
      rw [hr]; exact oV_no h0
    obtain ⟨⟨g1, g2⟩, g3⟩ := hg _ _ hr'
    dsimp only at g1 g2 g3
    refine Zh.room (mc' := 0 + (H1.2.1 + 1 - G.2.1)) (ms' := 0 + (H1.1 + 6 - G.1)) (Nat.le_refl _) (by omega) (by omega) ?_
    refine Zh.callV (r := ("Partlister", T_X, 5)) hV g3 hc hlk hin rfl hsl hG rfl hd hn hLl hcat hf9 ?_ ?_
    · intro E' G' hq
      obtain ⟨e1, e2, e3⟩ := hq
      obtain rfl := Sum.inl.inj e1
      obtain ⟨hp, k1, k2⟩ := hx (Nat.pos_of_ne_zero h0)
      dsimp only at e2 e3
      exact ⟨hp, k1, fun q9 => k2 G' q9 (by omega) (by omega) e3⟩
    · intro v G' hq
      exact absurd hq.1 (by simp)
