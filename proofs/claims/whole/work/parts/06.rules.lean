section ZRel
variable {D : va_G} {cl : List vw_C} {tys : List (Nat × FieldType)} {B : Nat}
def zUp (G : zH) (a : Nat) (e : zE) : zH := (G.1, fun q => if q = a then some e else G.2 q)
def zNew (G : zH) (e : zE) : zH := (G.1 + 1, fun q => if q = G.1 then some e else G.2 q)
theorem zUp_at (G : zH) (a : Nat) (e : zE) : (zUp G a e).2 a = some e := by simp [zUp]
theorem zUp_ne (G : zH) {a q : Nat} (e : zE) (h : q ≠ a) : (zUp G a e).2 q = G.2 q := by simp [zUp, h]
theorem zUp_sz (G : zH) (a : Nat) (e : zE) : (zUp G a e).1 = G.1 := rfl
theorem zNew_at (G : zH) (e : zE) : (zNew G e).2 G.1 = some e := by simp [zNew]
theorem zNew_ne (G : zH) {q : Nat} (e : zE) (h : q ≠ G.1) : (zNew G e).2 q = G.2 q := by simp [zNew, h]
theorem zNew_sz (G : zH) (e : zE) : (zNew G e).1 = G.1 + 1 := rfl
theorem zat.lt {q : Nat} {e : zE} {H : Heap} (h : zat D cl q e H) : q < H.size := by
  cases e with
  | inl a => obtain ⟨cell, h1, -⟩ := h; exact (Array.getElem?_eq_some_iff.mp h1).1
  | inr o => obtain ⟨r, cell, -, h1, -⟩ := h; exact (Array.getElem?_eq_some_iff.mp h1).1
theorem zat.kept {q : Nat} {e : zE} {H H1 : Heap} (h : zat D cl q e H) (hq : H1[q]? = H[q]?) : zat D cl q e H1 := by
  cases e with
  | inl a => obtain ⟨cell, h1, h2⟩ := h; exact ⟨cell, by rw [hq]; exact h1, h2⟩
  | inr o => obtain ⟨r, cell, h0, h1, h2⟩ := h; exact ⟨r, cell, h0, by rw [hq]; exact h1, h2⟩
theorem zRel.lt {G : zH} {H : Heap} (h : zRel D cl B G H) {a : Nat} {e : zE} (he : G.2 a = some e) : a < G.1 := by
  rw [← h.1]; exact (h.2 a e he).2.lt
theorem zRel.up {G : zH} {H H1 : Heap} (h : zRel D cl B G H) {a : Nat} {e : zE} (ha : B ≤ a) (h1 : zat D cl a e H1) (hz : H1.size = H.size) (ho : ∀ q, q ≠ a → H1[q]? = H[q]?) : zRel D cl B (zUp G a e) H1 := by
  refine ⟨by rw [hz]; exact h.1, fun q e' hq => ?_⟩
  by_cases hqa : q = a
  · subst hqa
    rw [zUp_at] at hq
    cases hq
    exact ⟨fun _ => ha, h1⟩
  · rw [zUp_ne G e hqa] at hq
    exact ⟨(h.2 q e' hq).1, (h.2 q e' hq).2.kept (ho q hqa)⟩
theorem zRel.new {G : zH} {H H1 : Heap} (h : zRel D cl B G H) {e : zE} (ha : B ≤ H.size) (h1 : zat D cl H.size e H1) (hz : H1.size = H.size + 1) (ho : ∀ q, q < H.size → H1[q]? = H[q]?) : zRel D cl B (zNew G e) H1 := by
  have hs := h.1
  refine ⟨by rw [hz, hs]; rfl, fun q e' hq => ?_⟩
  by_cases hqa : q = G.1
  · subst hqa
    rw [zNew_at] at hq
    cases hq
    rw [← hs]
    exact ⟨fun _ => ha, h1⟩
  · rw [zNew_ne G e hqa] at hq
    exact ⟨(h.2 q e' hq).1, (h.2 q e' hq).2.kept (ho q (h.2 q e' hq).2.lt)⟩
theorem zCell_set {cell : Cell} {n : Nat} {f : Nat → Int32} (h : cell.slots = (vp_cell 0 (n, .inl f)).slots) (j : Nat) (x : Int32) : (cell.setSlot j (.int x)).slots = (vp_cell 0 (n, .inl (upd f j x))).slots := by
  have e : (cell.setSlot j (.int x)).slots = ((vp_cell 0 (n, .inl f)).setSlot j (.int x)).slots := by simp [Cell.setSlot, h]
  rw [e, vp_cell_i, vp_cell_i, arrV_store]
  congr 2
  funext q
  by_cases hq : q = j
  · subst hq; simp [updV, upd]
  · simp [updV, upd, hq]
theorem zCell_setq {cell : Cell} {n : Nat} {f : Nat → Option Nat} (h : cell.slots = (vp_cell 0 (n, .inr (.inr (.inr (.inr f))))).slots) (j : Nat) (x : Option Nat) : (cell.setSlot j (va_rf x)).slots = (vp_cell 0 (n, .inr (.inr (.inr (.inr (va_up f j x)))))).slots := by
  have e : (cell.setSlot j (va_rf x)).slots = ((vp_cell 0 (n, .inr (.inr (.inr (.inr f))))).setSlot j (va_rf x)).slots := by simp [Cell.setSlot, h]
  rw [e, vp_cell_q, vp_cell_q, arrV_store]
  congr 2
  funext q
  by_cases hq : q = j
  · subst hq; simp [updV, va_up]
  · simp [updV, va_up, hq]
theorem zCell_ex (cA : ClassId) (n : Nat) (f : Nat → Int32) (j : Nat) (x : Int32) : (vp_cell cA (n, .inl f)).setSlot j (.int x) = vp_cell cA (n, .inl (upd f j x)) := by
  rw [vp_cell_i, vp_cell_i, arrV_store]
  congr 2
  funext q
  by_cases hq : q = j
  · subst hq; simp [updV, upd]
  · simp [updV, upd, hq]
theorem zCell_exq (cA : ClassId) (n : Nat) (f : Nat → Option Nat) (j : Nat) (x : Option Nat) : (vp_cell cA (n, .inr (.inr (.inr (.inr f))))).setSlot j (va_rf x) = vp_cell cA (n, .inr (.inr (.inr (.inr (va_up f j x))))) := by
  rw [vp_cell_q, vp_cell_q, arrV_store]
  congr 2
  funext q
  by_cases hq : q = j
  · subst hq; simp [updV, va_up]
  · simp [updV, va_up, hq]
theorem zArrOf {s : State} {cA : ClassId} {ty : FieldType} {cell : Cell} (h : ArrOfT s cA ty) (hc : cell.cls = cA) (hv : cell.vm.isStatics = false) : s.isArrayOf cell ty := by
  obtain ⟨-, k, hk, hk2⟩ := h 0 (fun _ => .null)
  exact ⟨fun q hq => (by rw [hq] at hv; cases hv), k, (by rw [hc]; exact hk), hk2⟩
theorem zSz_i {cell : Cell} {n : Nat} {f : Nat → Int32} (h : cell.slots = (vp_cell 0 (n, .inl f)).slots) : cell.slots.size = n := by rw [h, vp_cell_i, arrV_size]
theorem zSz_q {cell : Cell} {n : Nat} {f : Nat → Option Nat} (h : cell.slots = (vp_cell 0 (n, .inr (.inr (.inr (.inr f))))).slots) : cell.slots.size = n := by rw [h, vp_cell_q, arrV_size]
theorem zGt_i {cell : Cell} {n j : Nat} {f : Nat → Int32} (h : cell.slots = (vp_cell 0 (n, .inl f)).slots) (hj : j < n) : cell.slots[j]? = some (.int (f j)) := by rw [h, vp_cell_i, arrV_read _ _ hj]
theorem zGt_q {cell : Cell} {n j : Nat} {f : Nat → Option Nat} (h : cell.slots = (vp_cell 0 (n, .inr (.inr (.inr (.inr f))))).slots) (hj : j < n) : cell.slots[j]? = some (va_rf (f j)) := by rw [h, vp_cell_q, arrV_read _ _ hj]
theorem zKn.moved {U u : State} (hvm : u.vm.Alike U.vm) (h : zKn D cl tys u) : zKn D cl tys U := va_K.moved hvm h
theorem zTy_at {k t0 : Nat} {ty : FieldType} (h : tys[t0]? = some (k, ty)) : (zTy D tys)[t0]? = some (D.1 k, ty) := by
  unfold zTy
  rw [List.getElem?_map, h]
  rfl
end ZRel
theorem va_S.put1 {A : Nat → Prop} {H0 H H1 : Heap} {locs : List Loc} {a i : Nat} (hS : va_S A H0 H locs) (ha : A a) (hz : H1.size = H.size) (ho : ∀ q, q ≠ a → H1[q]? = H[q]?) : va_S A H0 H1 (locs ++ [⟨a, i⟩]) := by
  refine ⟨by rw [hz]; exact hS.1, fun q hq hn => ?_, fun x hx => ?_⟩
  · rw [ho q (fun h => hn (by rw [h]; exact ha))]
    exact hS.2.1 q hq hn
  · rcases List.mem_append.mp hx with h | h
    · exact hS.2.2 x h
    · rw [List.mem_singleton.mp h]; exact ha
theorem va_S.new1 {A : Nat → Prop} {H0 H H1 : Heap} {locs : List Loc} (hS : va_S A H0 H locs) (hz : H1.size = H.size + 1) (ho : ∀ q, q < H.size → H1[q]? = H[q]?) : va_S A H0 H1 locs :=
  ⟨Nat.le_trans hS.1 (by omega), fun x g1 g2 => (ho x (Nat.lt_of_lt_of_le g1 hS.1)).trans (hS.2.1 x g1 g2), hS.2.2⟩
theorem va_S.toF {A : Nat → Prop} {s t : State} {H : Heap} {locs : List Loc} (hS : va_S A s.heap H locs) (h : t.heap = H) : va_F A s t := by
  subst h; exact ⟨hS.1, hS.2.1⟩
theorem zx_ofW {l : Launch} {y : MethodName} {ws ws' : List Cond} {rm : Room} {Pc : Array Value → State → Prop} {Qc : Array Value → State → Outcome → State → Prop} {XC : String → State → State → Prop} {mc ms : Nat} {free : Addr → Prop} {cc : ByteArray} {maxL : Nat} {ret : Option FieldType}
    (hy : plainFor y = true) (hw : ws = Cond.code y cc maxL ret :: ws')
    (body : ∀ p e s m args below meth c s₁, BodyLoose p l y (headSpec ws rm) cc maxL ret e s m args below meth c s₁ → c.maxLocals = maxL → (∀ x ∈ c.exceptionTable.toList, False) → Pc args s →
      W p l e (headSpec ws rm).room s m args below meth c s.heap [] 0 0 (vx_MQ below Qc XC args s mc ms free) (entryFrame m args maxL)) : vx_Met l y ws rm Pc Qc XC mc ms free := by
  refine MetFree.of_bodySF (code := cc) (maxLocals := maxL) (ret := ret) hy ?_ ?_
  · intro args s m h hn
    obtain ⟨meth, c, h1, h2, h3, h4, h5, h6, -, -⟩ := Cond.code_spec hn (atoms_spec (ws := ws) h _ (by rw [hw]; exact List.mem_cons_self))
    exact ⟨meth, c, h1, h2, h3, h4, h5, h6⟩
  · intro p e s m args below meth c s₁ B hml hP _
    have hh0 : s₁.heap = s.heap := by rw [B.state]; rfl
    have ht : ∀ x ∈ c.exceptionTable.toList, False := by
      obtain ⟨meth9, c9, h1, h2, -, -, -, -, h7, -⟩ := Cond.code_spec B.named (atoms_spec (ws := ws) B.pre _ (by rw [hw]; exact List.mem_cons_self))
      cases Option.some.inj (h1.symm.trans B.method)
      cases Option.some.inj (h2.symm.trans (Stand.of_body B).code)
      intro x hx
      rw [Array.isEmpty_iff.mp h7] at hx
      cases hx
    obtain ⟨t, a1, o, b1, b2, b3⟩ := body p e s m args below meth c s₁ B hml ht hP s₁ hh0 (Stand.of_body B)
    exact ⟨t, o, a1, b1, b2, b3⟩
/-- the contract out of the body's walk -/
theorem zMet.of {V : zV} {M : zM} {fr mc ms : Nat} {As : List Value} {G : zH} {Q : Option Value → zH → Prop} {QX : String → zH → Prop} (hy : plainFor M.1 = true) (hn : (lg_sl As).length ≤ M.2.2.1)
    (L : zLs) (hL : ∀ ls, lv_has ls M.2.2.1 (lv_args 0 As) → zL ls L) (k : Z V M fr Q QX mc ms 0 L [] G) : zMet V M fr mc ms As G Q QX := by
  refine zx_ofW (cc := M.2.1) (maxL := M.2.2.1) (ret := M.2.2.2) hy rfl ?_
  intro p e s m args below meth c s₁ Bd hml hex hv
  obtain ⟨rfl, hRl, hK, hO, hB⟩ := hv
  have hts := atoms_spec (ws := zW M) Bd.pre
  have hl := lv_entry As hn
  rw [lg_entry_eq]
  generalize (lg_sl As ++ List.replicate (M.2.2.1 - (lg_sl As).length) Slot.unset).toArray = ls at hl ⊢
  exact k p e _ s m _ below meth c s.heap [] 0 0 mc ms ls
    ⟨Bd.exec, Bd.bytes, hml, Bd.returns, Bd.notSynchronized, findClass_of_methodNamed Bd.named, (name_of_methodNamed Bd.named Bd.method).1, fun w hw => hts w (List.mem_cons_of_mem _ hw), hK, hO, hB, hex⟩
    (Nat.le_refl _) (Nat.le_refl _) (Nat.le_refl _) (Nat.le_refl _) (by omega) (by omega) va_S.rf hRl (hL ls hl)
-- branches
theorem Z.if_eq {V : zV} {M : zM} {fr : Nat} {Q : Option Value → zH → Prop} {QX : String → zH → Prop} {mc ms pc : Nat} {L : zLs} {st : List Value} {G : zH} {x : Int32} {off : Int} {tgt : Nat} (hd : decode M.2.1 pc = .ok (.ifCond .eq off, 3)) (ht : (pc : Int) + off = (tgt : Int)) (kt : x = 0 → Z V M fr Q QX mc ms tgt L st G) (kf : ¬ x = 0 → Z V M fr Q QX mc ms (pc + 3) L st G) : Z V M fr Q QX mc ms pc L (.int x :: st) G := by
  intro p e R s m args below meth c H locs cells slots CT ST ls C h1 h2 h3 h4 h5 h6 hS hR hl
  exact lv_if_eq C.1 C.2.1 hd ht (fun q => (kt q) p e R s m args below meth c H locs cells slots CT ST ls C h1 h2 h3 h4 h5 h6 hS hR hl) (fun q => kf q p e R s m args below meth c H locs cells slots CT ST ls C h1 h2 h3 h4 h5 h6 hS hR hl)
theorem Z.ic_eq {V : zV} {M : zM} {fr : Nat} {Q : Option Value → zH → Prop} {QX : String → zH → Prop} {mc ms pc : Nat} {L : zLs} {st : List Value} {G : zH} {x y : Int32} {off : Int} {tgt : Nat} (hd : decode M.2.1 pc = .ok (.if_icmp .eq off, 3)) (ht : (pc : Int) + off = (tgt : Int)) (kt : x = y → Z V M fr Q QX mc ms tgt L st G) (kf : ¬ x = y → Z V M fr Q QX mc ms (pc + 3) L st G) : Z V M fr Q QX mc ms pc L (.int y :: .int x :: st) G := by
  intro p e R s m args below meth c H locs cells slots CT ST ls C h1 h2 h3 h4 h5 h6 hS hR hl
  exact lv_icmp_eq C.1 C.2.1 hd ht (fun q => (kt q) p e R s m args below meth c H locs cells slots CT ST ls C h1 h2 h3 h4 h5 h6 hS hR hl) (fun q => kf q p e R s m args below meth c H locs cells slots CT ST ls C h1 h2 h3 h4 h5 h6 hS hR hl)
theorem Z.if_ne {V : zV} {M : zM} {fr : Nat} {Q : Option Value → zH → Prop} {QX : String → zH → Prop} {mc ms pc : Nat} {L : zLs} {st : List Value} {G : zH} {x : Int32} {off : Int} {tgt : Nat} (hd : decode M.2.1 pc = .ok (.ifCond .ne off, 3)) (ht : (pc : Int) + off = (tgt : Int)) (kt : ¬ x = 0 → Z V M fr Q QX mc ms tgt L st G) (kf : x = 0 → Z V M fr Q QX mc ms (pc + 3) L st G) : Z V M fr Q QX mc ms pc L (.int x :: st) G := by
  intro p e R s m args below meth c H locs cells slots CT ST ls C h1 h2 h3 h4 h5 h6 hS hR hl
  exact lv_if_ne C.1 C.2.1 hd ht (fun q => (kt q) p e R s m args below meth c H locs cells slots CT ST ls C h1 h2 h3 h4 h5 h6 hS hR hl) (fun q => kf q p e R s m args below meth c H locs cells slots CT ST ls C h1 h2 h3 h4 h5 h6 hS hR hl)
theorem Z.ic_ne {V : zV} {M : zM} {fr : Nat} {Q : Option Value → zH → Prop} {QX : String → zH → Prop} {mc ms pc : Nat} {L : zLs} {st : List Value} {G : zH} {x y : Int32} {off : Int} {tgt : Nat} (hd : decode M.2.1 pc = .ok (.if_icmp .ne off, 3)) (ht : (pc : Int) + off = (tgt : Int)) (kt : ¬ x = y → Z V M fr Q QX mc ms tgt L st G) (kf : x = y → Z V M fr Q QX mc ms (pc + 3) L st G) : Z V M fr Q QX mc ms pc L (.int y :: .int x :: st) G := by
  intro p e R s m args below meth c H locs cells slots CT ST ls C h1 h2 h3 h4 h5 h6 hS hR hl
  exact lv_icmp_ne C.1 C.2.1 hd ht (fun q => (kt q) p e R s m args below meth c H locs cells slots CT ST ls C h1 h2 h3 h4 h5 h6 hS hR hl) (fun q => kf q p e R s m args below meth c H locs cells slots CT ST ls C h1 h2 h3 h4 h5 h6 hS hR hl)
theorem Z.if_lt {V : zV} {M : zM} {fr : Nat} {Q : Option Value → zH → Prop} {QX : String → zH → Prop} {mc ms pc : Nat} {L : zLs} {st : List Value} {G : zH} {x : Int32} {off : Int} {tgt : Nat} (hd : decode M.2.1 pc = .ok (.ifCond .lt off, 3)) (ht : (pc : Int) + off = (tgt : Int)) (kt : x < 0 → Z V M fr Q QX mc ms tgt L st G) (kf : ¬ x < 0 → Z V M fr Q QX mc ms (pc + 3) L st G) : Z V M fr Q QX mc ms pc L (.int x :: st) G := by
  intro p e R s m args below meth c H locs cells slots CT ST ls C h1 h2 h3 h4 h5 h6 hS hR hl
  exact lv_if_lt C.1 C.2.1 hd ht (fun q => (kt q) p e R s m args below meth c H locs cells slots CT ST ls C h1 h2 h3 h4 h5 h6 hS hR hl) (fun q => kf q p e R s m args below meth c H locs cells slots CT ST ls C h1 h2 h3 h4 h5 h6 hS hR hl)
theorem Z.ic_lt {V : zV} {M : zM} {fr : Nat} {Q : Option Value → zH → Prop} {QX : String → zH → Prop} {mc ms pc : Nat} {L : zLs} {st : List Value} {G : zH} {x y : Int32} {off : Int} {tgt : Nat} (hd : decode M.2.1 pc = .ok (.if_icmp .lt off, 3)) (ht : (pc : Int) + off = (tgt : Int)) (kt : x < y → Z V M fr Q QX mc ms tgt L st G) (kf : ¬ x < y → Z V M fr Q QX mc ms (pc + 3) L st G) : Z V M fr Q QX mc ms pc L (.int y :: .int x :: st) G := by
  intro p e R s m args below meth c H locs cells slots CT ST ls C h1 h2 h3 h4 h5 h6 hS hR hl
  exact lv_icmp_lt C.1 C.2.1 hd ht (fun q => (kt q) p e R s m args below meth c H locs cells slots CT ST ls C h1 h2 h3 h4 h5 h6 hS hR hl) (fun q => kf q p e R s m args below meth c H locs cells slots CT ST ls C h1 h2 h3 h4 h5 h6 hS hR hl)
theorem Z.if_ge {V : zV} {M : zM} {fr : Nat} {Q : Option Value → zH → Prop} {QX : String → zH → Prop} {mc ms pc : Nat} {L : zLs} {st : List Value} {G : zH} {x : Int32} {off : Int} {tgt : Nat} (hd : decode M.2.1 pc = .ok (.ifCond .ge off, 3)) (ht : (pc : Int) + off = (tgt : Int)) (kt : 0 ≤ x → Z V M fr Q QX mc ms tgt L st G) (kf : ¬ 0 ≤ x → Z V M fr Q QX mc ms (pc + 3) L st G) : Z V M fr Q QX mc ms pc L (.int x :: st) G := by
  intro p e R s m args below meth c H locs cells slots CT ST ls C h1 h2 h3 h4 h5 h6 hS hR hl
  exact lv_if_ge C.1 C.2.1 hd ht (fun q => (kt q) p e R s m args below meth c H locs cells slots CT ST ls C h1 h2 h3 h4 h5 h6 hS hR hl) (fun q => kf q p e R s m args below meth c H locs cells slots CT ST ls C h1 h2 h3 h4 h5 h6 hS hR hl)
theorem Z.ic_ge {V : zV} {M : zM} {fr : Nat} {Q : Option Value → zH → Prop} {QX : String → zH → Prop} {mc ms pc : Nat} {L : zLs} {st : List Value} {G : zH} {x y : Int32} {off : Int} {tgt : Nat} (hd : decode M.2.1 pc = .ok (.if_icmp .ge off, 3)) (ht : (pc : Int) + off = (tgt : Int)) (kt : y ≤ x → Z V M fr Q QX mc ms tgt L st G) (kf : ¬ y ≤ x → Z V M fr Q QX mc ms (pc + 3) L st G) : Z V M fr Q QX mc ms pc L (.int y :: .int x :: st) G := by
  intro p e R s m args below meth c H locs cells slots CT ST ls C h1 h2 h3 h4 h5 h6 hS hR hl
  exact lv_icmp_ge C.1 C.2.1 hd ht (fun q => (kt q) p e R s m args below meth c H locs cells slots CT ST ls C h1 h2 h3 h4 h5 h6 hS hR hl) (fun q => kf q p e R s m args below meth c H locs cells slots CT ST ls C h1 h2 h3 h4 h5 h6 hS hR hl)
theorem Z.if_gt {V : zV} {M : zM} {fr : Nat} {Q : Option Value → zH → Prop} {QX : String → zH → Prop} {mc ms pc : Nat} {L : zLs} {st : List Value} {G : zH} {x : Int32} {off : Int} {tgt : Nat} (hd : decode M.2.1 pc = .ok (.ifCond .gt off, 3)) (ht : (pc : Int) + off = (tgt : Int)) (kt : 0 < x → Z V M fr Q QX mc ms tgt L st G) (kf : ¬ 0 < x → Z V M fr Q QX mc ms (pc + 3) L st G) : Z V M fr Q QX mc ms pc L (.int x :: st) G := by
  intro p e R s m args below meth c H locs cells slots CT ST ls C h1 h2 h3 h4 h5 h6 hS hR hl
  exact lv_if_gt C.1 C.2.1 hd ht (fun q => (kt q) p e R s m args below meth c H locs cells slots CT ST ls C h1 h2 h3 h4 h5 h6 hS hR hl) (fun q => kf q p e R s m args below meth c H locs cells slots CT ST ls C h1 h2 h3 h4 h5 h6 hS hR hl)
theorem Z.ic_gt {V : zV} {M : zM} {fr : Nat} {Q : Option Value → zH → Prop} {QX : String → zH → Prop} {mc ms pc : Nat} {L : zLs} {st : List Value} {G : zH} {x y : Int32} {off : Int} {tgt : Nat} (hd : decode M.2.1 pc = .ok (.if_icmp .gt off, 3)) (ht : (pc : Int) + off = (tgt : Int)) (kt : y < x → Z V M fr Q QX mc ms tgt L st G) (kf : ¬ y < x → Z V M fr Q QX mc ms (pc + 3) L st G) : Z V M fr Q QX mc ms pc L (.int y :: .int x :: st) G := by
  intro p e R s m args below meth c H locs cells slots CT ST ls C h1 h2 h3 h4 h5 h6 hS hR hl
  exact lv_icmp_gt C.1 C.2.1 hd ht (fun q => (kt q) p e R s m args below meth c H locs cells slots CT ST ls C h1 h2 h3 h4 h5 h6 hS hR hl) (fun q => kf q p e R s m args below meth c H locs cells slots CT ST ls C h1 h2 h3 h4 h5 h6 hS hR hl)
theorem Z.if_le {V : zV} {M : zM} {fr : Nat} {Q : Option Value → zH → Prop} {QX : String → zH → Prop} {mc ms pc : Nat} {L : zLs} {st : List Value} {G : zH} {x : Int32} {off : Int} {tgt : Nat} (hd : decode M.2.1 pc = .ok (.ifCond .le off, 3)) (ht : (pc : Int) + off = (tgt : Int)) (kt : x ≤ 0 → Z V M fr Q QX mc ms tgt L st G) (kf : ¬ x ≤ 0 → Z V M fr Q QX mc ms (pc + 3) L st G) : Z V M fr Q QX mc ms pc L (.int x :: st) G := by
  intro p e R s m args below meth c H locs cells slots CT ST ls C h1 h2 h3 h4 h5 h6 hS hR hl
  exact lv_if_le C.1 C.2.1 hd ht (fun q => (kt q) p e R s m args below meth c H locs cells slots CT ST ls C h1 h2 h3 h4 h5 h6 hS hR hl) (fun q => kf q p e R s m args below meth c H locs cells slots CT ST ls C h1 h2 h3 h4 h5 h6 hS hR hl)
theorem Z.ic_le {V : zV} {M : zM} {fr : Nat} {Q : Option Value → zH → Prop} {QX : String → zH → Prop} {mc ms pc : Nat} {L : zLs} {st : List Value} {G : zH} {x y : Int32} {off : Int} {tgt : Nat} (hd : decode M.2.1 pc = .ok (.if_icmp .le off, 3)) (ht : (pc : Int) + off = (tgt : Int)) (kt : x ≤ y → Z V M fr Q QX mc ms tgt L st G) (kf : ¬ x ≤ y → Z V M fr Q QX mc ms (pc + 3) L st G) : Z V M fr Q QX mc ms pc L (.int y :: .int x :: st) G := by
  intro p e R s m args below meth c H locs cells slots CT ST ls C h1 h2 h3 h4 h5 h6 hS hR hl
  exact lv_icmp_le C.1 C.2.1 hd ht (fun q => (kt q) p e R s m args below meth c H locs cells slots CT ST ls C h1 h2 h3 h4 h5 h6 hS hR hl) (fun q => kf q p e R s m args below meth c H locs cells slots CT ST ls C h1 h2 h3 h4 h5 h6 hS hR hl)
theorem Z.goto {V : zV} {M : zM} {fr : Nat} {Q : Option Value → zH → Prop} {QX : String → zH → Prop} {mc ms pc : Nat} {L : zLs} {st : List Value} {G : zH} {off : Int} {tgt : Nat} (hd : decode M.2.1 pc = .ok (.goto off, 3)) (ht : (pc : Int) + off = (tgt : Int)) (k : Z V M fr Q QX mc ms tgt L st G) : Z V M fr Q QX mc ms pc L st G := by
  intro p e R s m args below meth c H locs cells slots CT ST ls C h1 h2 h3 h4 h5 h6 hS hR hl
  exact lv_goto C.1 C.2.1 hd ht (k p e R s m args below meth c H locs cells slots CT ST ls C h1 h2 h3 h4 h5 h6 hS hR hl)
theorem Z.ifnull_r {V : zV} {M : zM} {fr : Nat} {Q : Option Value → zH → Prop} {QX : String → zH → Prop} {mc ms pc : Nat} {L : zLs} {st : List Value} {G : zH} {x : Nat} {off : Int} (hd : decode M.2.1 pc = .ok (.ifnull off, 3)) (k : Z V M fr Q QX mc ms (pc + 3) L st G) : Z V M fr Q QX mc ms pc L (.ref x :: st) G := by
  intro p e R s m args below meth c H locs cells slots CT ST ls C h1 h2 h3 h4 h5 h6 hS hR hl
  exact lv_ifnull C.1 C.2.1 hd (k p e R s m args below meth c H locs cells slots CT ST ls C h1 h2 h3 h4 h5 h6 hS hR hl)
theorem Z.ifnonnull_n {V : zV} {M : zM} {fr : Nat} {Q : Option Value → zH → Prop} {QX : String → zH → Prop} {mc ms pc : Nat} {L : zLs} {st : List Value} {G : zH} {x : Nat} {off : Int} (hd : decode M.2.1 pc = .ok (.ifnonnull off, 3)) (k : Z V M fr Q QX mc ms (pc + 3) L st G) : Z V M fr Q QX mc ms pc L (.null :: st) G := by
  intro p e R s m args below meth c H locs cells slots CT ST ls C h1 h2 h3 h4 h5 h6 hS hR hl
  exact lv_ifnonnullN C.1 C.2.1 hd (k p e R s m args below meth c H locs cells slots CT ST ls C h1 h2 h3 h4 h5 h6 hS hR hl)
theorem Z.ifnull_n {V : zV} {M : zM} {fr : Nat} {Q : Option Value → zH → Prop} {QX : String → zH → Prop} {mc ms pc : Nat} {L : zLs} {st : List Value} {G : zH} {x : Nat} {off : Int} {tgt : Nat} (hd : decode M.2.1 pc = .ok (.ifnull off, 3)) (ht : (pc : Int) + off = (tgt : Int)) (k : Z V M fr Q QX mc ms tgt L st G) : Z V M fr Q QX mc ms pc L (.null :: st) G := by
  intro p e R s m args below meth c H locs cells slots CT ST ls C h1 h2 h3 h4 h5 h6 hS hR hl
  exact lv_ifnullN C.1 C.2.1 hd ht (k p e R s m args below meth c H locs cells slots CT ST ls C h1 h2 h3 h4 h5 h6 hS hR hl)
theorem Z.ifnonnull_r {V : zV} {M : zM} {fr : Nat} {Q : Option Value → zH → Prop} {QX : String → zH → Prop} {mc ms pc : Nat} {L : zLs} {st : List Value} {G : zH} {x : Nat} {off : Int} {tgt : Nat} (hd : decode M.2.1 pc = .ok (.ifnonnull off, 3)) (ht : (pc : Int) + off = (tgt : Int)) (k : Z V M fr Q QX mc ms tgt L st G) : Z V M fr Q QX mc ms pc L (.ref x :: st) G := by
  intro p e R s m args below meth c H locs cells slots CT ST ls C h1 h2 h3 h4 h5 h6 hS hR hl
  exact lv_ifnonnull C.1 C.2.1 hd ht (k p e R s m args below meth c H locs cells slots CT ST ls C h1 h2 h3 h4 h5 h6 hS hR hl)
theorem Z.swIn {V : zV} {M : zM} {fr : Nat} {Q : Option Value → zH → Prop} {QX : String → zH → Prop} {mc ms pc : Nat} {L : zLs} {st : List Value} {G : zH} {dflt lo hi : Int} {offs : Array Int} {len : Nat} {x : Int32} {off : Int} {tgt : Nat} (hd : decode M.2.1 pc = .ok (.tableswitch dflt lo hi offs, len)) (g1 : ¬ x.toInt < lo) (g2 : ¬ hi < x.toInt) (ho : offs[(x.toInt - lo).toNat]? = some off) (ht : (pc : Int) + off = (tgt : Int)) (k : Z V M fr Q QX mc ms tgt L st G) : Z V M fr Q QX mc ms pc L (.int x :: st) G := by
  intro p e R s m args below meth c H locs cells slots CT ST ls C h1 h2 h3 h4 h5 h6 hS hR hl
  exact lv_tableIn C.1 C.2.1 hd g1 g2 ho ht (k p e R s m args below meth c H locs cells slots CT ST ls C h1 h2 h3 h4 h5 h6 hS hR hl)
theorem Z.swOut {V : zV} {M : zM} {fr : Nat} {Q : Option Value → zH → Prop} {QX : String → zH → Prop} {mc ms pc : Nat} {L : zLs} {st : List Value} {G : zH} {dflt lo hi : Int} {offs : Array Int} {len : Nat} {x : Int32} {tgt : Nat} (hd : decode M.2.1 pc = .ok (.tableswitch dflt lo hi offs, len)) (g : x.toInt < lo ∨ hi < x.toInt) (ht : (pc : Int) + dflt = (tgt : Int)) (k : Z V M fr Q QX mc ms tgt L st G) : Z V M fr Q QX mc ms pc L (.int x :: st) G := by
  intro p e R s m args below meth c H locs cells slots CT ST ls C h1 h2 h3 h4 h5 h6 hS hR hl
  exact lv_tableOut C.1 C.2.1 hd g ht (k p e R s m args below meth c H locs cells slots CT ST ls C h1 h2 h3 h4 h5 h6 hS hR hl)
theorem Z.idiv {V : zV} {M : zM} {fr : Nat} {Q : Option Value → zH → Prop} {QX : String → zH → Prop} {mc ms pc : Nat} {L : zLs} {st : List Value} {G : zH} {x y : Int32} (hd : decode M.2.1 pc = .ok (.idiv, 1)) (hne : ¬ y = 0) (k : Z V M fr Q QX mc ms (pc + 1) L (.int (x / y) :: st) G) : Z V M fr Q QX mc ms pc L (.int y :: .int x :: st) G := by
  intro p e R s m args below meth c H locs cells slots CT ST ls C h1 h2 h3 h4 h5 h6 hS hR hl
  exact lv_idiv C.1 C.2.1 hd hne (k p e R s m args below meth c H locs cells slots CT ST ls C h1 h2 h3 h4 h5 h6 hS hR hl)
theorem Z.irem {V : zV} {M : zM} {fr : Nat} {Q : Option Value → zH → Prop} {QX : String → zH → Prop} {mc ms pc : Nat} {L : zLs} {st : List Value} {G : zH} {x y : Int32} (hd : decode M.2.1 pc = .ok (.irem, 1)) (hne : ¬ y = 0) (k : Z V M fr Q QX mc ms (pc + 1) L (.int (x - x / y * y) :: st) G) : Z V M fr Q QX mc ms pc L (.int y :: .int x :: st) G := by
  intro p e R s m args below meth c H locs cells slots CT ST ls C h1 h2 h3 h4 h5 h6 hS hR hl
  exact lv_irem C.1 C.2.1 hd hne (k p e R s m args below meth c H locs cells slots CT ST ls C h1 h2 h3 h4 h5 h6 hS hR hl)
/-- what the pool of own says at idx: the field k of the class ci -/
def zFl (cl : List vw_C) (own : String) (idx ci k : Nat) (ty : FieldType) (fin : Bool) : Prop := ∃ (C : String) (T : u_T) (N : Nat) (ref : String) (t0 : Nat → FieldType),
  cl[ci]? = some (C, T, N) ∧ k < N ∧ (∀ w ∈ u_ws C T N, w ∈ zT) ∧ Cond.fieldLink own idx ref (T k).2.1 (T k).2.2.1 ∈ zT ∧ (ref = (T k).1 ∨ Cond.sameField ref (T k).1 (T k).2.1 (T k).2.2.1 ∈ zT) ∧
  (∀ j, j < N → parseFieldDescriptor (T j).2.2.1 = some (t0 j)) ∧ (∀ a, a < N → ∀ b, b < N → a ≠ b → (T a).2.1 ≠ (T b).2.1) ∧ (T k).2.2.2 = fin ∧ t0 k = ty ∧ (fin = true → (T k).1 = own)
theorem Z.getf {V : zV} {M : zM} {fr : Nat} {Q : Option Value → zH → Prop} {QX : String → zH → Prop} {mc ms pc : Nat} {L : zLs} {st : List Value} {G : zH} {a c0 ci k idx : Nat} {fs : List Value} {v : Value} {ty : FieldType} {fin : Bool} (hf : zFl V.2.2.1 M.1.cls idx ci k ty fin) (hd : decode M.2.1 pc = .ok (.getfield idx, 3)) (hG : G.2 a = some (.inr (c0, fs))) (hcm : c0 % 1000 = ci) (hv : fs[k]? = some v) (kk : Z V M fr Q QX mc ms (pc + 3) L (v :: st) G) : Z V M fr Q QX mc ms pc L (.ref a :: st) G := by
  intro p e R s m args below meth c H locs cells slots CT ST ls C h1 h2 h3 h4 h5 h6 hS hR hl
  subst hcm
  obtain ⟨C0, T, N, ref, t0, hc, hk, hin, hlink, hsame, ht0, hnm, hfin, hty, hown2⟩ := hf
  have hts := C.2.2.2.2.2.2.2.1
  have hK : va_K V.2.1 V.2.2.1 (zTy V.2.1 V.2.2.2.1) s := C.2.2.2.2.2.2.2.2.1
  have hsm : ∀ x, s.fieldFound? (T k).1 (T k).2.1 (T k).2.2.1 = some x → s.fieldFound? ref (T k).2.1 (T k).2.2.1 = some x := by
    intro x hx
    rcases hsame with h | h
    · rw [h]; exact hx
    · exact u_same (hts _ h) x hx
  obtain ⟨-, r, cell, g1, q1, q2, q3, q3b, q3c, q4⟩ := hR.2 a _ hG
  have hr : r = (C0, T, N) := Option.some.inj (g1.symm.trans hc)
  subst hr
  obtain ⟨hSl, hfc, kC, hkC, hkind⟩ := hK.1 _ _ hc
  obtain ⟨cf, kf, fi, f, hi, hsl⟩ := hSl k hk
  refine W.getf C.1 C.2.1 C.2.2.2.2.2.1 (hts _ hlink) (hsm _ hi) (u_facts hfc hkC (u_lays hts hin hk) hi).1 q1 q3b (v := v) ?_ rfl rfl hd (kk p e R s m args below meth c H locs cells slots CT ST ls C h1 h2 h3 h4 h5 h6 hS hR hl)
  rw [hsl, q4 k v hk hv]
theorem Z.putf {V : zV} {M : zM} {fr : Nat} {Q : Option Value → zH → Prop} {QX : String → zH → Prop} {mc ms pc : Nat} {L : zLs} {st : List Value} {G : zH} {a ci k idx : Nat} {fs : List Value} {v : Value} {ty : FieldType} (hf : zFl V.2.2.1 M.1.cls idx ci k ty false) (hci : ci < 1000) (hd : decode M.2.1 pc = .ok (.putfield idx, 3)) (hG : G.2 a = some (.inr (ci, fs))) (hlt : k < fs.length) (hn : narrow ty v = v) (hfit : fits ty v = true) (kk : Z V M fr Q QX mc ms (pc + 3) L st (zUp G a (.inr (ci, fs.set k v)))) : Z V M fr Q QX mc ms pc L (v :: .ref a :: st) G := by
  intro p e R s m args below meth c H locs cells slots CT ST ls C h1 h2 h3 h4 h5 h6 hS hR hl
  have e9 : ci % 1000 = ci := Nat.mod_eq_of_lt hci
  obtain ⟨C0, T, N, ref, t0, hc, hk, hin, hlink, hsame, ht0, hnm, hfin, hty, hown2⟩ := hf
  have hts := C.2.2.2.2.2.2.2.1
  have hK : va_K V.2.1 V.2.2.1 (zTy V.2.1 V.2.2.2.1) s := C.2.2.2.2.2.2.2.2.1
  have hsm : ∀ x, s.fieldFound? (T k).1 (T k).2.1 (T k).2.2.1 = some x → s.fieldFound? ref (T k).2.1 (T k).2.2.1 = some x := by
    intro x hx
    rcases hsame with h | h
    · rw [h]; exact hx
    · exact u_same (hts _ h) x hx
  have hap := va_apart (own := M.1.cls) hts hin t0 ht0 hnm hK hc
  obtain ⟨hB0, r, cell, g1, q1, q2, q3, q3b, q3c, q4⟩ := hR.2 a _ hG
  have hBa : zA V a := hB0 (by show decide (1000 ≤ ci) = false; exact decide_eq_false (by omega))
  have q3 : cell.vm = .none := q3 hci
  dsimp only at g1 q2 q4
  rw [e9] at g1 q2 q4
  have hr : r = (C0, T, N) := Option.some.inj (g1.symm.trans hc)
  subst hr
  obtain ⟨hSl, hfc, kC, hkC, hkind⟩ := hK.1 ci _ hc
  obtain ⟨cf, kf, fi, f, hi, hsl⟩ := hSl k hk
  have hlay := hts _ (hin _ (u_in_lay hk))
  unfold u_lay at hlay
  have hst := (u_facts hfc hkC (u_lays hts hin hk) hi).1
  have hdd : parseFieldDescriptor (T k).2.2.1 = some ty := by rw [ht0 k hk, hty]
  have hsz9 : V.2.1.2 ci k < cell.slots.size := k2_hasslot (q4 k _ hk (List.getElem?_eq_getElem hlt))
  rw [if_neg (by rw [hfin]; decide)] at hlay
  have h9 := u_store hfc hkC hkind hlay hi hdd hn hfit
  refine W.putK C.1 C.2.1 (f := f) ⟨C.2.2.2.2.2.1, hts _ hlink, ⟨_, _, _, hsm _ hi⟩, hst⟩ (by rw [q2]; exact h9) q1 q3 (by rw [hsl]; exact hsz9) rfl rfl hd fun H' e1 e2 e3 => ?_
  rw [hsl] at e1 ⊢
  refine kk p e R s m args below meth c H' _ cells slots CT ST ls C h1 h2 h3 h4 h5 h6 (hS.put1 hBa e2 e3) (hR.up hBa ?_ e2 e3) hl
  refine ⟨_, _, (by rw [e9]; exact hc), e1, (by rw [e9]; exact q2), fun _ => q3, q3b, q3c, fun j w hj hw => ?_⟩
  dsimp only
  rw [e9]
  by_cases hjk : j = k
  · subst hjk
    rw [List.getElem?_set_self hlt] at hw
    cases hw
    simp [Cell.setSlot, hsz9]
  · rw [List.getElem?_set_ne (fun q => hjk q.symm)] at hw
    have := q4 j w hj hw
    simp only [Cell.setSlot]
    rw [Array.getElem?_setIfInBounds_ne (fun q => hap j k hj hk hjk q.symm)]
    exact this
theorem Z.putF {V : zV} {M : zM} {fr : Nat} {Q : Option Value → zH → Prop} {QX : String → zH → Prop} {mc ms pc : Nat} {L : zLs} {st : List Value} {G : zH} {a ci k idx : Nat} {fs : List Value} {v : Value} {ty : FieldType} (hf : zFl V.2.2.1 M.1.cls idx ci k ty true) (hin2 : M.1.name = "<init>") (hci : ci < 1000) (hd : decode M.2.1 pc = .ok (.putfield idx, 3)) (hG : G.2 a = some (.inr (ci, fs))) (hlt : k < fs.length) (hn : narrow ty v = v) (hfit : fits ty v = true) (kk : Z V M fr Q QX mc ms (pc + 3) L st (zUp G a (.inr (ci, fs.set k v)))) : Z V M fr Q QX mc ms pc L (v :: .ref a :: st) G := by
  intro p e R s m args below meth c H locs cells slots CT ST ls C h1 h2 h3 h4 h5 h6 hS hR hl
  have e9 : ci % 1000 = ci := Nat.mod_eq_of_lt hci
  obtain ⟨C0, T, N, ref, t0, hc, hk, hin, hlink, hsame, ht0, hnm, hfin, hty, hown2⟩ := hf
  have hts := C.2.2.2.2.2.2.2.1
  have hK : va_K V.2.1 V.2.2.1 (zTy V.2.1 V.2.2.2.1) s := C.2.2.2.2.2.2.2.2.1
  have hsm : ∀ x, s.fieldFound? (T k).1 (T k).2.1 (T k).2.2.1 = some x → s.fieldFound? ref (T k).2.1 (T k).2.2.1 = some x := by
    intro x hx
    rcases hsame with h | h
    · rw [h]; exact hx
    · exact u_same (hts _ h) x hx
  have hap := va_apart (own := M.1.cls) hts hin t0 ht0 hnm hK hc
  obtain ⟨hB0, r, cell, g1, q1, q2, q3, q3b, q3c, q4⟩ := hR.2 a _ hG
  have hBa : zA V a := hB0 (by show decide (1000 ≤ ci) = false; exact decide_eq_false (by omega))
  have q3 : cell.vm = .none := q3 hci
  dsimp only at g1 q2 q4
  rw [e9] at g1 q2 q4
  have hr : r = (C0, T, N) := Option.some.inj (g1.symm.trans hc)
  subst hr
  obtain ⟨hSl, hfc, kC, hkC, hkind⟩ := hK.1 ci _ hc
  obtain ⟨cf, kf, fi, f, hi, hsl⟩ := hSl k hk
  have hlay := hts _ (hin _ (u_in_lay hk))
  unfold u_lay at hlay
  have hst := (u_facts hfc hkC (u_lays hts hin hk) hi).1
  have hdd : parseFieldDescriptor (T k).2.2.1 = some ty := by rw [ht0 k hk, hty]
  have hsz9 : V.2.1.2 ci k < cell.slots.size := k2_hasslot (q4 k _ hk (List.getElem?_eq_getElem hlt))
  rw [if_pos hfin] at hlay
  have hcf : m.cls = cf := by
    obtain ⟨_, _, c', _, _, _, -, -, hf', -, -, -, hown3, -⟩ := Cond.laysFinal_spec hlay
    have e1 : c' = cf := by have := hi.symm.trans hf'; simp at this; exact this.1.symm
    rw [hown2 rfl] at hown3
    rw [← e1]; exact Option.some.inj (C.2.2.2.2.2.1.symm.trans hown3)
  have h9 := u_fits hfc hkC hkind (Or.inr hlay) hi hdd hn hfit
  refine W.putFinK C.1 C.2.1 C.2.2.2.2.2.1 (hts _ hlink) (hsm _ hi) hst hcf (C.2.2.2.2.2.2.1.trans hin2) (by rw [q2]; exact h9) q1 q3 (by rw [hsl]; exact hsz9) rfl rfl hd fun H' e1 e2 e3 => ?_
  rw [hsl] at e1 ⊢
  refine kk p e R s m args below meth c H' _ cells slots CT ST ls C h1 h2 h3 h4 h5 h6 (hS.put1 hBa e2 e3) (hR.up hBa ?_ e2 e3) hl
  refine ⟨_, _, (by rw [e9]; exact hc), e1, (by rw [e9]; exact q2), fun _ => q3, q3b, q3c, fun j w hj hw => ?_⟩
  dsimp only
  rw [e9]
  by_cases hjk : j = k
  · subst hjk
    rw [List.getElem?_set_self hlt] at hw
    cases hw
    simp [Cell.setSlot, hsz9]
  · rw [List.getElem?_set_ne (fun q => hjk q.symm)] at hw
    have := q4 j w hj hw
    simp only [Cell.setSlot]
    rw [Array.getElem?_setIfInBounds_ne (fun q => hap j k hj hk hjk q.symm)]
    exact this
theorem zArrName {D : va_G} {cl : List vw_C} {tys : List (Nat × FieldType)} {s : State} (hK : va_K D cl (zTy D tys) s) {t0 ka : Nat} {ty : FieldType} (ht : tys[t0]? = some (ka, ty)) : s.vm.findClass ("[" ++ ty.toString) = some (D.1 ka) := by
  have h := (hK.2 t0 _ (zTy_at ht)).2
  cases ty <;> first | exact h | (obtain ⟨kA, comp, k1, k2, k3, k4⟩ := h; exact k4)
abbrev zI (k n : Nat) (f : Nat → Int32) : zE := .inl (k, n, .inl f)
abbrev zQ (k n : Nat) (f : Nat → Option Nat) : zE := .inl (k, n, .inr (.inr (.inr (.inr f))))
theorem Z.iald {V : zV} {M : zM} {fr : Nat} {Q : Option Value → zH → Prop} {QX : String → zH → Prop} {mc ms pc : Nat} {L : zLs} {st : List Value} {G : zH} {a k0 ka n t0 : Nat} {f : Nat → Int32} {i : Int32} (hd : decode M.2.1 pc = .ok (.iaload, 1)) (ht : V.2.2.2.1[t0]? = some (ka, .int)) (hG : G.2 a = some (zI k0 n f)) (hkm : k0 % 1000 = ka) (hin : vp_in i n) (kk : Z V M fr Q QX mc ms (pc + 1) L (.int (f i.toNatClampNeg) :: st) G) : Z V M fr Q QX mc ms pc L (.int i :: .ref a :: st) G := by
  intro p e R s m args below meth c H locs cells slots CT ST ls C h1 h2 h3 h4 h5 h6 hS hR hl
  have hK : va_K V.2.1 V.2.2.1 (zTy V.2.1 V.2.2.2.1) s := C.2.2.2.2.2.2.2.2.1
  subst hkm
  have hlt : i.toNatClampNeg < n := Nat.not_le.mp fun q => hin (Or.inr q)
  obtain ⟨-, cell, q1, q2, q3, q4, q5, q6⟩ := hR.2 a _ hG
  exact W.iald (v := .int (f i.toNatClampNeg)) C.1 C.2.1 q1 (zArrOf (hK.2 t0 _ (zTy_at ht)).1 q2 q5) q4 (by rw [zSz_i q6]; exact hin) (zGt_i q6 hlt) rfl rfl hd (kk p e R s m args below meth c H locs cells slots CT ST ls C h1 h2 h3 h4 h5 h6 hS hR hl)
theorem Z.bald {V : zV} {M : zM} {fr : Nat} {Q : Option Value → zH → Prop} {QX : String → zH → Prop} {mc ms pc : Nat} {L : zLs} {st : List Value} {G : zH} {a k0 ka n t0 : Nat} {f : Nat → Int32} {i : Int32} (hd : decode M.2.1 pc = .ok (.baload, 1)) (ht : V.2.2.2.1[t0]? = some (ka, .byte)) (hG : G.2 a = some (zI k0 n f)) (hkm : k0 % 1000 = ka) (hin : vp_in i n) (kk : Z V M fr Q QX mc ms (pc + 1) L (.int (f i.toNatClampNeg) :: st) G) : Z V M fr Q QX mc ms pc L (.int i :: .ref a :: st) G := by
  intro p e R s m args below meth c H locs cells slots CT ST ls C h1 h2 h3 h4 h5 h6 hS hR hl
  have hK : va_K V.2.1 V.2.2.1 (zTy V.2.1 V.2.2.2.1) s := C.2.2.2.2.2.2.2.2.1
  subst hkm
  have hlt : i.toNatClampNeg < n := Nat.not_le.mp fun q => hin (Or.inr q)
  obtain ⟨-, cell, q1, q2, q3, q4, q5, q6⟩ := hR.2 a _ hG
  exact W.bald (v := .int (f i.toNatClampNeg)) C.1 C.2.1 q1 (zArrOf (hK.2 t0 _ (zTy_at ht)).1 q2 q5) q4 (by rw [zSz_i q6]; exact hin) (zGt_i q6 hlt) rfl rfl hd (kk p e R s m args below meth c H locs cells slots CT ST ls C h1 h2 h3 h4 h5 h6 hS hR hl)
theorem Z.zald {V : zV} {M : zM} {fr : Nat} {Q : Option Value → zH → Prop} {QX : String → zH → Prop} {mc ms pc : Nat} {L : zLs} {st : List Value} {G : zH} {a k0 ka n t0 : Nat} {f : Nat → Int32} {i : Int32} (hd : decode M.2.1 pc = .ok (.baload, 1)) (ht : V.2.2.2.1[t0]? = some (ka, .boolean)) (hG : G.2 a = some (zI k0 n f)) (hkm : k0 % 1000 = ka) (hin : vp_in i n) (kk : Z V M fr Q QX mc ms (pc + 1) L (.int (f i.toNatClampNeg) :: st) G) : Z V M fr Q QX mc ms pc L (.int i :: .ref a :: st) G := by
  intro p e R s m args below meth c H locs cells slots CT ST ls C h1 h2 h3 h4 h5 h6 hS hR hl
  have hK : va_K V.2.1 V.2.2.1 (zTy V.2.1 V.2.2.2.1) s := C.2.2.2.2.2.2.2.2.1
  subst hkm
  have hlt : i.toNatClampNeg < n := Nat.not_le.mp fun q => hin (Or.inr q)
  obtain ⟨-, cell, q1, q2, q3, q4, q5, q6⟩ := hR.2 a _ hG
  exact W.zald (v := .int (f i.toNatClampNeg)) C.1 C.2.1 q1 (zArrOf (hK.2 t0 _ (zTy_at ht)).1 q2 q5) q4 (by rw [zSz_i q6]; exact hin) (zGt_i q6 hlt) rfl rfl hd (kk p e R s m args below meth c H locs cells slots CT ST ls C h1 h2 h3 h4 h5 h6 hS hR hl)
theorem Z.aald {V : zV} {M : zM} {fr : Nat} {Q : Option Value → zH → Prop} {QX : String → zH → Prop} {mc ms pc : Nat} {L : zLs} {st : List Value} {G : zH} {a k0 ka n t0 : Nat} {C1 : String} {f : Nat → Option Nat} {i : Int32} (hd : decode M.2.1 pc = .ok (.aaload, 1)) (ht : V.2.2.2.1[t0]? = some (ka, .object C1)) (hG : G.2 a = some (zQ k0 n f)) (hkm : k0 % 1000 = ka) (hin : vp_in i n) (kk : Z V M fr Q QX mc ms (pc + 1) L (va_rf (f i.toNatClampNeg) :: st) G) : Z V M fr Q QX mc ms pc L (.int i :: .ref a :: st) G := by
  intro p e R s m args below meth c H locs cells slots CT ST ls C h1 h2 h3 h4 h5 h6 hS hR hl
  have hK : va_K V.2.1 V.2.2.1 (zTy V.2.1 V.2.2.2.1) s := C.2.2.2.2.2.2.2.2.1
  subst hkm
  have hlt : i.toNatClampNeg < n := Nat.not_le.mp fun q => hin (Or.inr q)
  obtain ⟨-, cell, q1, q2, q3, q4, q5, q6⟩ := hR.2 a _ hG
  exact W.aald (v := va_rf (f i.toNatClampNeg)) (ty := .object C1) C.1 C.2.1 q1 (zArrOf (hK.2 t0 _ (zTy_at ht)).1 q2 q5) rfl q4 (by rw [zSz_q q6]; exact hin) (zGt_q q6 hlt) rfl rfl hd (kk p e R s m args below meth c H locs cells slots CT ST ls C h1 h2 h3 h4 h5 h6 hS hR hl)
theorem Z.alen {V : zV} {M : zM} {fr : Nat} {Q : Option Value → zH → Prop} {QX : String → zH → Prop} {mc ms pc : Nat} {L : zLs} {st : List Value} {G : zH} {a k0 ka t0 : Nat} {x : vp_A} {ty : FieldType} {v : Int32} (hd : decode M.2.1 pc = .ok (.arraylength, 1)) (ht : V.2.2.2.1[t0]? = some (ka, ty)) (hG : G.2 a = some (.inl (k0, x))) (hkm : k0 % 1000 = ka) (hv : Int32.ofNat x.1 = v) (kk : Z V M fr Q QX mc ms (pc + 1) L (.int v :: st) G) : Z V M fr Q QX mc ms pc L (.ref a :: st) G := by
  intro p e R s m args below meth c H locs cells slots CT ST ls C h1 h2 h3 h4 h5 h6 hS hR hl
  have hK : va_K V.2.1 V.2.2.1 (zTy V.2.1 V.2.2.2.1) s := C.2.2.2.2.2.2.2.2.1
  subst hkm hv
  obtain ⟨-, cell, q1, q2, q3, q4, q5, q6⟩ := hR.2 a _ hG
  have hz : cell.slots.size = x.1 := by
    rw [q6]
    obtain ⟨n, f | f | f | f | f⟩ := x
    · rw [vp_cell_i, arrV_size]
    · rw [vp_cell_l, arrV_size]
    · rw [vp_cell_f, arrV_size]
    · rw [vp_cell_d, arrV_size]
    · rw [vp_cell_q, arrV_size]
  exact W.alen (n := Int32.ofNat x.1) C.1 C.2.1 q1 (zArrOf (hK.2 t0 _ (zTy_at ht)).1 q2 q5) (by rw [hz]) rfl rfl hd (kk p e R s m args below meth c H locs cells slots CT ST ls C h1 h2 h3 h4 h5 h6 hS hR hl)
theorem Z.iast {V : zV} {M : zM} {fr : Nat} {Q : Option Value → zH → Prop} {QX : String → zH → Prop} {mc ms pc : Nat} {L : zLs} {st : List Value} {G : zH} {a ka n t0 : Nat} {f : Nat → Int32} {i x : Int32} (hd : decode M.2.1 pc = .ok (.iastore, 1)) (ht : V.2.2.2.1[t0]? = some (ka, .int)) (hka : ka < 1000) (hG : G.2 a = some (zI ka n f)) (hin : vp_in i n) (kk : Z V M fr Q QX mc ms (pc + 1) L st (zUp G a (zI ka n (upd f i.toNatClampNeg x)))) : Z V M fr Q QX mc ms pc L (.int x :: .int i :: .ref a :: st) G := by
  intro p e_ R s m args below meth c H locs cells slots CT ST ls C h1 h2 h3 h4 h5 h6 hS hR hl
  have hK : va_K V.2.1 V.2.2.1 (zTy V.2.1 V.2.2.2.1) s := C.2.2.2.2.2.2.2.2.1
  have e9 : ka % 1000 = ka := Nat.mod_eq_of_lt hka
  obtain ⟨hB0, cell, q1, q2, q3, q4, q5, q6⟩ := hR.2 a _ hG
  have hBa : zA V a := hB0 (by show decide (1000 ≤ ka) = false; exact decide_eq_false (by omega))
  have q2 : cell.cls = V.2.1.1 ka := by rw [← e9]; exact q2
  refine W.iast C.1 C.2.1 q1 (zArrOf (hK.2 t0 _ (zTy_at ht)).1 q2 q5) q4 (by rw [zSz_i q6]; exact hin) rfl rfl hd fun H1 e z oq => ?_
  refine kk p e_ R s m args below meth c H1 _ cells slots CT ST ls C h1 h2 h3 h4 h5 h6 (hS.put1 hBa z oq) (hR.up hBa ?_ z oq) hl
  exact ⟨_, e, (by show _ = V.2.1.1 (ka % 1000); rw [e9]; exact q2), fun h => (by rw [q3 h]; exact zCell_ex _ _ _ _ _), q4, q5, zCell_set q6 _ _⟩
theorem Z.bast {V : zV} {M : zM} {fr : Nat} {Q : Option Value → zH → Prop} {QX : String → zH → Prop} {mc ms pc : Nat} {L : zLs} {st : List Value} {G : zH} {a ka n t0 : Nat} {f : Nat → Int32} {i x : Int32} (hd : decode M.2.1 pc = .ok (.bastore, 1)) (ht : V.2.2.2.1[t0]? = some (ka, .byte)) (hka : ka < 1000) (hG : G.2 a = some (zI ka n f)) (hin : vp_in i n) (kk : Z V M fr Q QX mc ms (pc + 1) L st (zUp G a (zI ka n (upd f i.toNatClampNeg (vp_nar .byte x))))) : Z V M fr Q QX mc ms pc L (.int x :: .int i :: .ref a :: st) G := by
  intro p e_ R s m args below meth c H locs cells slots CT ST ls C h1 h2 h3 h4 h5 h6 hS hR hl
  have hK : va_K V.2.1 V.2.2.1 (zTy V.2.1 V.2.2.2.1) s := C.2.2.2.2.2.2.2.2.1
  have e9 : ka % 1000 = ka := Nat.mod_eq_of_lt hka
  obtain ⟨hB0, cell, q1, q2, q3, q4, q5, q6⟩ := hR.2 a _ hG
  have hBa : zA V a := hB0 (by show decide (1000 ≤ ka) = false; exact decide_eq_false (by omega))
  have q2 : cell.cls = V.2.1.1 ka := by rw [← e9]; exact q2
  refine W.bast C.1 C.2.1 q1 (zArrOf (hK.2 t0 _ (zTy_at ht)).1 q2 q5) q4 (by rw [zSz_i q6]; exact hin) rfl rfl hd fun H1 e z oq => ?_
  refine kk p e_ R s m args below meth c H1 _ cells slots CT ST ls C h1 h2 h3 h4 h5 h6 (hS.put1 hBa z oq) (hR.up hBa ?_ z oq) hl
  exact ⟨_, e, (by show _ = V.2.1.1 (ka % 1000); rw [e9]; exact q2), fun h => (by rw [q3 h]; exact zCell_ex _ _ _ _ _), q4, q5, zCell_set q6 _ _⟩
theorem Z.zast {V : zV} {M : zM} {fr : Nat} {Q : Option Value → zH → Prop} {QX : String → zH → Prop} {mc ms pc : Nat} {L : zLs} {st : List Value} {G : zH} {a ka n t0 : Nat} {f : Nat → Int32} {i x : Int32} (hd : decode M.2.1 pc = .ok (.bastore, 1)) (ht : V.2.2.2.1[t0]? = some (ka, .boolean)) (hka : ka < 1000) (hG : G.2 a = some (zI ka n f)) (hin : vp_in i n) (kk : Z V M fr Q QX mc ms (pc + 1) L st (zUp G a (zI ka n (upd f i.toNatClampNeg (vp_nar .boolean x))))) : Z V M fr Q QX mc ms pc L (.int x :: .int i :: .ref a :: st) G := by
  intro p e_ R s m args below meth c H locs cells slots CT ST ls C h1 h2 h3 h4 h5 h6 hS hR hl
  have hK : va_K V.2.1 V.2.2.1 (zTy V.2.1 V.2.2.2.1) s := C.2.2.2.2.2.2.2.2.1
  have e9 : ka % 1000 = ka := Nat.mod_eq_of_lt hka
  obtain ⟨hB0, cell, q1, q2, q3, q4, q5, q6⟩ := hR.2 a _ hG
  have hBa : zA V a := hB0 (by show decide (1000 ≤ ka) = false; exact decide_eq_false (by omega))
  have q2 : cell.cls = V.2.1.1 ka := by rw [← e9]; exact q2
  refine W.zast C.1 C.2.1 q1 (zArrOf (hK.2 t0 _ (zTy_at ht)).1 q2 q5) q4 (by rw [zSz_i q6]; exact hin) rfl rfl hd fun H1 e z oq => ?_
  refine kk p e_ R s m args below meth c H1 _ cells slots CT ST ls C h1 h2 h3 h4 h5 h6 (hS.put1 hBa z oq) (hR.up hBa ?_ z oq) hl
  exact ⟨_, e, (by show _ = V.2.1.1 (ka % 1000); rw [e9]; exact q2), fun h => (by rw [q3 h]; exact zCell_ex _ _ _ _ _), q4, q5, zCell_set q6 _ _⟩
theorem Z.aastN {V : zV} {M : zM} {fr : Nat} {Q : Option Value → zH → Prop} {QX : String → zH → Prop} {mc ms pc : Nat} {L : zLs} {st : List Value} {G : zH} {a ka n t0 : Nat} {C1 : String} {f : Nat → Option Nat} {i : Int32} (hd : decode M.2.1 pc = .ok (.aastore, 1)) (ht : V.2.2.2.1[t0]? = some (ka, .object C1)) (hka : ka < 1000) (hG : G.2 a = some (zQ ka n f)) (hin : vp_in i n) (kk : Z V M fr Q QX mc ms (pc + 1) L st (zUp G a (zQ ka n (va_up f i.toNatClampNeg none)))) : Z V M fr Q QX mc ms pc L (.null :: .int i :: .ref a :: st) G := by
  intro p e_ R s m args below meth c H locs cells slots CT ST ls C h1 h2 h3 h4 h5 h6 hS hR hl
  have hK : va_K V.2.1 V.2.2.1 (zTy V.2.1 V.2.2.2.1) s := C.2.2.2.2.2.2.2.2.1
  have e9 : ka % 1000 = ka := Nat.mod_eq_of_lt hka
  obtain ⟨hB0, cell, q1, q2, q3, q4, q5, q6⟩ := hR.2 a _ hG
  have hBa : zA V a := hB0 (by show decide (1000 ≤ ka) = false; exact decide_eq_false (by omega))
  have q2 : cell.cls = V.2.1.1 ka := by rw [← e9]; exact q2
  refine va_WaastN (C := C1) C.1 C.2.1 q1 (zArrOf (hK.2 t0 _ (zTy_at ht)).1 q2 q5) q4 (by rw [zSz_q q6]; exact hin) rfl rfl hd fun H1 e z oq => ?_
  refine kk p e_ R s m args below meth c H1 _ cells slots CT ST ls C h1 h2 h3 h4 h5 h6 (hS.put1 hBa z oq) (hR.up hBa ?_ z oq) hl
  exact ⟨_, e, (by show _ = V.2.1.1 (ka % 1000); rw [e9]; exact q2), fun h => (by rw [q3 h]; exact zCell_exq _ _ _ _ none), q4, q5, zCell_setq q6 _ none⟩
theorem Z.aast {V : zV} {M : zM} {fr : Nat} {Q : Option Value → zH → Prop} {QX : String → zH → Prop} {mc ms pc : Nat} {L : zLs} {st : List Value} {G : zH} {a b c0 ka n t0 ci : Nat} {r : vw_C} {vs : List Value} {f : Nat → Option Nat} {i : Int32} (hd : decode M.2.1 pc = .ok (.aastore, 1)) (ht : V.2.2.2.1[t0]? = some (ka, .object r.1)) (hc : V.2.2.1[ci]? = some r) (hka : ka < 1000) (hb : G.2 b = some (.inr (c0, vs))) (hcm : c0 % 1000 = ci) (hG : G.2 a = some (zQ ka n f)) (hin : vp_in i n) (kk : Z V M fr Q QX mc ms (pc + 1) L st (zUp G a (zQ ka n (va_up f i.toNatClampNeg (some b))))) : Z V M fr Q QX mc ms pc L (.ref b :: .int i :: .ref a :: st) G := by
  intro p e_ R s m args below meth c H locs cells slots CT ST ls C h1 h2 h3 h4 h5 h6 hS hR hl
  have hK : va_K V.2.1 V.2.2.1 (zTy V.2.1 V.2.2.2.1) s := C.2.2.2.2.2.2.2.2.1
  have e9 : ka % 1000 = ka := Nat.mod_eq_of_lt hka
  obtain ⟨hB0, cell, q1, q2, q3, q4, q5, q6⟩ := hR.2 a _ hG
  have hBa : zA V a := hB0 (by show decide (1000 ≤ ka) = false; exact decide_eq_false (by omega))
  have q2 : cell.cls = V.2.1.1 ka := by rw [← e9]; exact q2
  have hlt : i.toNatClampNeg < n := Nat.not_le.mp fun q => hin (Or.inr q)
  have h0 : ¬ i < 0 := fun q => hin (Or.inl q)
  obtain ⟨kA, comp, k1, k2, k3, -⟩ := (hK.2 t0 _ (zTy_at ht)).2
  obtain ⟨kE, hkE, -⟩ := Vm.findClass_spec k3
  subst hcm
  obtain ⟨-, r', cellV, hr', g1, g2, g3, g4, g5, -⟩ := hR.2 b _ hb
  have hcls := (hK.1 _ r hc).2
  have hcomp : comp = V.2.1.1 (c0 % 1000) := Option.some.inj (k3.symm.trans hcls.1)
  subst hcomp
  refine W.aast C.1 C.2.1 q1 (fun q h => by rw [h] at q5; cases q5) q4 (by rw [q2]; exact k1) k2 rfl hkE ⟨h0, by rw [zSz_q q6]; exact hlt⟩ g1 (fun q h => by rw [h] at g5; cases g5) (by rw [g2]; exact hkE) (by rw [g2]; exact va_assign hcls) rfl rfl hd fun H1 e z oq => ?_
  refine kk p e_ R s m args below meth c H1 _ cells slots CT ST ls C h1 h2 h3 h4 h5 h6 (hS.put1 hBa z oq) (hR.up hBa ?_ z oq) hl
  exact ⟨_, e, (by show _ = V.2.1.1 (ka % 1000); rw [e9]; exact q2), fun h => (by rw [q3 h]; exact zCell_exq _ _ _ _ (some b)), q4, q5, zCell_setq q6 _ (some b)⟩
theorem Z.aastC {V : zV} {M : zM} {fr : Nat} {Q : Option Value → zH → Prop} {QX : String → zH → Prop} {mc ms pc : Nat} {L : zLs} {st : List Value} {G : zH} {a b c0 ka n t0 ci : Nat} {E : String} {r : vw_C} {vs : List Value} {f : Nat → Option Nat} {i : Int32} (hd : decode M.2.1 pc = .ok (.aastore, 1)) (ht : V.2.2.2.1[t0]? = some (ka, .object E)) (hc : V.2.2.1[ci]? = some r) (hca : Cond.castable r.1 E ∈ zT) (hka : ka < 1000) (hb : G.2 b = some (.inr (c0, vs))) (hcm : c0 % 1000 = ci) (hG : G.2 a = some (zQ ka n f)) (hin : vp_in i n) (kk : Z V M fr Q QX mc ms (pc + 1) L st (zUp G a (zQ ka n (va_up f i.toNatClampNeg (some b))))) : Z V M fr Q QX mc ms pc L (.ref b :: .int i :: .ref a :: st) G := by
  intro p e_ R s m args below meth c H locs cells slots CT ST ls C h1 h2 h3 h4 h5 h6 hS hR hl
  have hK : va_K V.2.1 V.2.2.1 (zTy V.2.1 V.2.2.2.1) s := C.2.2.2.2.2.2.2.2.1
  have e9 : ka % 1000 = ka := Nat.mod_eq_of_lt hka
  obtain ⟨hB0, cell, q1, q2, q3, q4, q5, q6⟩ := hR.2 a _ hG
  have hBa : zA V a := hB0 (by show decide (1000 ≤ ka) = false; exact decide_eq_false (by omega))
  have q2 : cell.cls = V.2.1.1 ka := by rw [← e9]; exact q2
  have hlt : i.toNatClampNeg < n := Nat.not_le.mp fun q => hin (Or.inr q)
  have h0 : ¬ i < 0 := fun q => hin (Or.inl q)
  obtain ⟨kA, comp, k1, k2, k3, -⟩ := (hK.2 t0 _ (zTy_at ht)).2
  obtain ⟨kE, hkE, -⟩ := Vm.findClass_spec k3
  subst hcm
  obtain ⟨-, r', cellV, hr', g1, g2, g3, g4, g5, -⟩ := hR.2 b _ hb
  have hcls := (hK.1 _ r hc).2
  obtain ⟨kC, hkC, -⟩ := hcls.2
  obtain ⟨c9, t1, f1, f2, f3⟩ := Cond.castable_spec (C.2.2.2.2.2.2.2.1 _ hca)
  cases hcls.1.symm.trans f1
  cases k3.symm.trans f2
  refine W.aast C.1 C.2.1 q1 (fun q h => by rw [h] at q5; cases q5) q4 (by rw [q2]; exact k1) k2 rfl hkE ⟨h0, by rw [zSz_q q6]; exact hlt⟩ g1 (fun q h => by rw [h] at g5; cases g5) (by rw [g2]; exact hkC) (by rw [g2]; exact f3) rfl rfl hd fun H1 e z oq => ?_
  refine kk p e_ R s m args below meth c H1 _ cells slots CT ST ls C h1 h2 h3 h4 h5 h6 (hS.put1 hBa z oq) (hR.up hBa ?_ z oq) hl
  exact ⟨_, e, (by show _ = V.2.1.1 (ka % 1000); rw [e9]; exact q2), fun h => (by rw [q3 h]; exact zCell_exq _ _ _ _ (some b)), q4, q5, zCell_setq q6 _ (some b)⟩
theorem Z.aastA {V : zV} {M : zM} {fr : Nat} {Q : Option Value → zH → Prop} {QX : String → zH → Prop} {mc ms pc : Nat} {L : zLs} {st : List Value} {G : zH} {a b c0 kb ka n t0 t1 : Nat} {E nm : String} {ty1 : FieldType} {x : vp_A} {f : Nat → Option Nat} {i : Int32} (hd : decode M.2.1 pc = .ok (.aastore, 1)) (ht : V.2.2.2.1[t0]? = some (ka, .object E)) (ht1 : V.2.2.2.1[t1]? = some (kb, ty1)) (hnm : "[" ++ ty1.toString = nm) (hca : Cond.castable nm E ∈ zT) (hka : ka < 1000) (hb : G.2 b = some (.inl (c0, x))) (hcm : c0 % 1000 = kb) (hG : G.2 a = some (zQ ka n f)) (hin : vp_in i n) (kk : Z V M fr Q QX mc ms (pc + 1) L st (zUp G a (zQ ka n (va_up f i.toNatClampNeg (some b))))) : Z V M fr Q QX mc ms pc L (.ref b :: .int i :: .ref a :: st) G := by
  intro p e_ R s m args below meth c H locs cells slots CT ST ls C h1 h2 h3 h4 h5 h6 hS hR hl
  have hK : va_K V.2.1 V.2.2.1 (zTy V.2.1 V.2.2.2.1) s := C.2.2.2.2.2.2.2.2.1
  have e9 : ka % 1000 = ka := Nat.mod_eq_of_lt hka
  obtain ⟨hB0, cell, q1, q2, q3, q4, q5, q6⟩ := hR.2 a _ hG
  have hBa : zA V a := hB0 (by show decide (1000 ≤ ka) = false; exact decide_eq_false (by omega))
  have q2 : cell.cls = V.2.1.1 ka := by rw [← e9]; exact q2
  have hlt : i.toNatClampNeg < n := Nat.not_le.mp fun q => hin (Or.inr q)
  have h0 : ¬ i < 0 := fun q => hin (Or.inl q)
  obtain ⟨kA, comp, k1, k2, k3, -⟩ := (hK.2 t0 _ (zTy_at ht)).2
  obtain ⟨kE, hkE, -⟩ := Vm.findClass_spec k3
  subst hcm
  obtain ⟨-, cellV, g1, g2, g3, g4, g5, -⟩ := hR.2 b _ hb
  have hfA := zArrName hK ht1
  rw [hnm] at hfA
  obtain ⟨kC, hkC, -⟩ := Vm.findClass_spec hfA
  obtain ⟨c9, t9, f1, f2, f3⟩ := Cond.castable_spec (C.2.2.2.2.2.2.2.1 _ hca)
  cases hfA.symm.trans f1
  cases k3.symm.trans f2
  refine W.aast C.1 C.2.1 q1 (fun q h => by rw [h] at q5; cases q5) q4 (by rw [q2]; exact k1) k2 rfl hkE ⟨h0, by rw [zSz_q q6]; exact hlt⟩ g1 (fun q h => by rw [h] at g5; cases g5) (by rw [g2]; exact hkC) (by rw [g2]; exact f3) rfl rfl hd fun H1 e z oq => ?_
  refine kk p e_ R s m args below meth c H1 _ cells slots CT ST ls C h1 h2 h3 h4 h5 h6 (hS.put1 hBa z oq) (hR.up hBa ?_ z oq) hl
  exact ⟨_, e, (by show _ = V.2.1.1 (ka % 1000); rw [e9]; exact q2), fun h => (by rw [q3 h]; exact zCell_exq _ _ _ _ (some b)), q4, q5, zCell_setq q6 _ (some b)⟩
theorem Z.castO {V : zV} {M : zM} {fr : Nat} {Q : Option Value → zH → Prop} {QX : String → zH → Prop} {mc ms pc : Nat} {L : zLs} {st : List Value} {G : zH} {a c0 ci idx : Nat} {r : vw_C} {fs : List Value} (hd : decode M.2.1 pc = .ok (.checkcast idx, 3)) (hrc : V.2.2.1[ci]? = some r) (hlk : Cond.classLink M.1.cls idx r.1 ∈ zT) (hG : G.2 a = some (.inr (c0, fs))) (hcm : c0 % 1000 = ci) (k : Z V M fr Q QX mc ms (pc + 3) L (.ref a :: st) G) : Z V M fr Q QX mc ms pc L (.ref a :: st) G := by
  intro p e R s m args below meth c H locs cells slots CT ST ls C h1 h2 h3 h4 h5 h6 hS hR hl
  have hK : va_K V.2.1 V.2.2.1 (zTy V.2.1 V.2.2.2.1) s := C.2.2.2.2.2.2.2.2.1
  subst hcm
  obtain ⟨-, r', cell, hr', g1, g2, g3, g4, g5, -⟩ := hR.2 a _ hG
  have hcls := (hK.1 _ r hrc).2
  exact va_castS C.1 C.2.1 C.2.2.2.2.2.1 (C.2.2.2.2.2.2.2.1 _ hlk) hcls ⟨cell, g1, g5, by rw [g2]; exact hcls.1⟩ hd (k p e R s m args below meth c H locs cells slots CT ST ls C h1 h2 h3 h4 h5 h6 hS hR hl)
theorem Z.castA {V : zV} {M : zM} {fr : Nat} {Q : Option Value → zH → Prop} {QX : String → zH → Prop} {mc ms pc : Nat} {L : zLs} {st : List Value} {G : zH} {a c0 ka t0 idx : Nat} {nm : String} {ty : FieldType} {x : vp_A} (hd : decode M.2.1 pc = .ok (.checkcast idx, 3)) (ht : V.2.2.2.1[t0]? = some (ka, ty)) (hnm : "[" ++ ty.toString = nm) (hlk : Cond.classLink M.1.cls idx nm ∈ zT) (hG : G.2 a = some (.inl (c0, x))) (hcm : c0 % 1000 = ka) (k : Z V M fr Q QX mc ms (pc + 3) L (.ref a :: st) G) : Z V M fr Q QX mc ms pc L (.ref a :: st) G := by
  intro p e R s m args below meth c H locs cells slots CT ST ls C h1 h2 h3 h4 h5 h6 hS hR hl
  have hK : va_K V.2.1 V.2.2.1 (zTy V.2.1 V.2.2.2.1) s := C.2.2.2.2.2.2.2.2.1
  subst hcm
  obtain ⟨-, cell, g1, g2, g3, g4, g5, -⟩ := hR.2 a _ hG
  have hfA := zArrName hK ht
  rw [hnm] at hfA
  intro T hT X
  obtain ⟨vm', X', stp⟩ := X.checkcastYes C.1 C.2.2.2.2.2.1 (C.2.2.2.2.2.2.2.1 _ hlk) (by rw [hT]; exact g1) g5 hfA (by rw [g2]; exact va_asg _ _) (g := F0 m pc ls (.ref a :: st)) rfl rfl (by rw [C.2.1]; exact hd)
  obtain ⟨t, a1, b1⟩ := k p e R s m args below meth c H locs cells slots CT ST ls C h1 h2 h3 h4 h5 h6 hS hR hl (T.setVm vm') hT X'
  exact ⟨t, stp t a1, b1⟩
def zNc (cl : List vw_C) (own : String) (idx ci N : Nat) : Prop := ∃ (C : String) (T : u_T) (t0 : Nat → FieldType), cl[ci]? = some (C, T, N) ∧ (∀ w ∈ u_ws C T N, w ∈ zT) ∧ (∀ j, j < N → parseFieldDescriptor (T j).2.2.1 = some (t0 j)) ∧
  Cond.classLink own idx C ∈ zT ∧ Cond.instantiable C N ∈ zT ∧ Cond.initialized C ∈ zT
def zBlank (cl : List vw_C) (ci : Nat) (fs : List Value) : Prop := ∀ (C : String) (T : u_T) (N : Nat), cl[ci]? = some (C, T, N) → ∀ j, j < N → (parseFieldDescriptor (T j).2.2.1).map defaultValue = some (vp_V fs j)
theorem Z.new {V : zV} {M : zM} {fr : Nat} {Q : Option Value → zH → Prop} {QX : String → zH → Prop} {mc ms pc : Nat} {L : zLs} {st : List Value} {G : zH} {ci N idx : Nat} {fs : List Value} (hn : zNc V.2.2.1 M.1.cls idx ci N) (hci : ci < 1000) (hfs : zBlank V.2.2.1 ci fs) (hd : decode M.2.1 pc = .ok (.new idx, 3)) (kk : Z V M fr Q QX mc ms (pc + 3) L (.ref G.1 :: st) (zNew G (.inr (ci, fs)))) : Z V M fr Q QX (mc + 1) (ms + N) pc L st G := by
  intro p e R s m args below meth c H locs cells slots CT ST ls C h1 h2 h3 h4 h5 h6 hS hR hl
  obtain ⟨C0, T, t0, hc, hin, ht0, w1, w2, w3⟩ := hn
  have hts := C.2.2.2.2.2.2.2.1
  have hK : va_K V.2.1 V.2.2.1 (zTy V.2.1 V.2.2.2.1) s := C.2.2.2.2.2.2.2.2.1
  have hKn := hK.1 ci _ hc
  have hsz := hR.1
  have hBs := Nat.le_trans C.2.2.2.2.2.2.2.2.2.2.1 hS.1
  refine W.newcK C.1 C.2.1 C.2.2.2.2.2.1 (hts _ w1) (hts _ w2) (hts _ w3) rfl hd (by omega) (by omega) hKn.2.1 hsz fun H1 kC hkC e1 z1 o1 => ?_
  have o1 : ∀ q, q < H.size → H1[q]? = H[q]? := fun q hq => o1 q (by rw [← hsz]; exact hq)
  refine kk p e R s m args below meth c H1 locs (cells + 1) (slots + N) CT ST ls C h1 h2 h3 h4 (by omega) (by omega) (hS.new1 (by omega) o1) (hR.new hBs ?_ (by omega) o1) hl
  obtain ⟨cell9, b1, b2, b3, b4⟩ := u_born (H := H1) (o := H.size) t0 hts hin hKn hkC (by rw [hsz]; exact e1) ht0
  have e9 : ci % 1000 = ci := Nat.mod_eq_of_lt hci
  refine ⟨_, cell9, (by rw [e9]; exact hc), b1, (by rw [e9]; exact b2), fun _ => b3, (by rw [b3]; intro h; cases h), (by rw [b3]; rfl), fun j v hj hv => ?_⟩
  dsimp only
  rw [e9, b4 j hj]
  have h9 := hfs C0 T N hc j hj
  rw [ht0 j hj] at h9
  have h8 : defaultValue (t0 j) = vp_V fs j := Option.some.inj h9
  show some (defaultValue (t0 j)) = some v
  rw [h8]
  have hv9 : fs[j]? = some v := hv
  simp [vp_V, hv9]
theorem Z.newa {V : zV} {M : zM} {fr : Nat} {Q : Option Value → zH → Prop} {QX : String → zH → Prop} {mc ms pc : Nat} {L : zLs} {st : List Value} {G : zH} {at_ : ArrayType} {ka t0 N : Nat} {n : Int32} (hw : Cond.arrayClass (newarray.typeOf at_) ∈ zT) (ht : V.2.2.2.1[t0]? = some (ka, newarray.typeOf at_)) (hka : ka < 1000) (hdef : defaultValue (newarray.typeOf at_) = .int 0) (hb : componentBytes (newarray.typeOf at_) ≤ 8) (hd : decode M.2.1 pc = .ok (.newarray at_, 2)) (hn : ¬ n < 0) (hN : n.toNatClampNeg = N) (hlim : N ≤ 60000000) (kk : Z V M fr Q QX mc ms (pc + 2) L (.ref G.1 :: st) (zNew G (zI ka N (fun _ => 0)))) : Z V M fr Q QX (mc + 1) (ms + N) pc L (.int n :: st) G := by
  intro p e R s m args below meth c H locs cells slots CT ST ls C h1 h2 h3 h4 h5 h6 hS hR hl
  have hts := C.2.2.2.2.2.2.2.1
  have hK : va_K V.2.1 V.2.2.1 (zTy V.2.1 V.2.2.2.1) s := C.2.2.2.2.2.2.2.2.1
  have hsz := hR.1
  have hBs := Nat.le_trans C.2.2.2.2.2.2.2.2.2.2.1 hS.1
  have hbytes : N * componentBytes (newarray.typeOf at_) ≤ 536870912 := Nat.le_trans (Nat.mul_le_mul hlim hb) (by decide)
  subst hN
  refine va_newaK C.1 C.2.1 (hts _ hw) rfl hd rfl hn rfl hbytes (by omega) (by omega) hsz fun H1 cA e1 z1 o1 hAr hNm => ?_
  have o1 : ∀ q, q < H.size → H1[q]? = H[q]? := fun q hq => o1 q (by rw [← hsz]; exact hq)
  have hcA : cA = V.2.1.1 ka := Option.some.inj (hNm.symm.trans (zArrName hK ht))
  subst hcA
  refine kk p e R s m args below meth c H1 locs (cells + 1) (slots + _) CT ST ls C h1 h2 h3 h4 (by omega) (by omega) (hS.new1 (by omega) o1) (hR.new hBs ?_ (by omega) o1) hl
  rw [hdef] at e1
  exact ⟨arrV (V.2.1.1 ka) n.toNatClampNeg (fun _ => .int 0), (by rw [hsz]; exact e1), (by show _ = V.2.1.1 (ka % 1000); rw [Nat.mod_eq_of_lt hka]; rfl), fun _ => (by rw [show (ka, _).1 % 1000 = ka from Nat.mod_eq_of_lt hka]; rfl), (fun h => by cases h), rfl, rfl⟩
theorem Z.newq {V : zV} {M : zM} {fr : Nat} {Q : Option Value → zH → Prop} {QX : String → zH → Prop} {mc ms pc : Nat} {L : zLs} {st : List Value} {G : zH} {ka t0 N idx : Nat} {C1 : String} {n : Int32} (hw : Cond.arrayOver (.object C1) ∈ zT) (hlk : Cond.classLink M.1.cls idx C1 ∈ zT) (ht : V.2.2.2.1[t0]? = some (ka, .object C1)) (hka : ka < 1000) (hd : decode M.2.1 pc = .ok (.anewarray idx, 3)) (hn : ¬ n < 0) (hN : n.toNatClampNeg = N) (hlim : N ≤ 60000000) (kk : Z V M fr Q QX mc ms (pc + 3) L (.ref G.1 :: st) (zNew G (zQ ka N (fun _ => none)))) : Z V M fr Q QX (mc + 1) (ms + N) pc L (.int n :: st) G := by
  intro p e R s m args below meth c H locs cells slots CT ST ls C h1 h2 h3 h4 h5 h6 hS hR hl
  have hts := C.2.2.2.2.2.2.2.1
  have hK : va_K V.2.1 V.2.2.1 (zTy V.2.1 V.2.2.2.1) s := C.2.2.2.2.2.2.2.2.1
  have hsz := hR.1
  have hBs := Nat.le_trans C.2.2.2.2.2.2.2.2.2.2.1 hS.1
  subst hN
  refine W.anew C.1 C.2.1 C.2.2.2.2.2.1 (hts _ hlk) (hts _ hw) rfl hd rfl hn (by omega) (by omega) (by omega) fun cA kA comp f1 f2 f3 f4 => ?_
  have hcA : cA = V.2.1.1 ka := Option.some.inj (f1.symm.trans (zArrName hK ht))
  subst hcA
  generalize hH1 : H.push ({ cls := V.2.1.1 ka, slots := Array.replicate n.toNatClampNeg .null, vm := .none } : Cell) = H1
  have z1 : H1.size = H.size + 1 := by rw [← hH1, Array.size_push]
  have e1 : H1[H.size]? = some (arrV (V.2.1.1 ka) n.toNatClampNeg (fun _ => .null)) := by rw [← hH1, Array.getElem?_push_size, ← arrV_new]
  have o1 : ∀ q : Nat, q < H.size → H1[q]? = H[q]? := fun q hq => by rw [← hH1, Array.getElem?_push, if_neg (Nat.ne_of_lt hq)]
  have k9 := kk p e R s m args below meth c H1 locs (cells + 1) (slots + n.toNatClampNeg) CT ST ls C h1 h2 h3 h4 (by omega) (by omega) (hS.new1 (by omega) o1) (hR.new hBs ⟨arrV (V.2.1.1 ka) n.toNatClampNeg (fun _ => .null), e1, (by show _ = V.2.1.1 (ka % 1000); rw [Nat.mod_eq_of_lt hka]; rfl), fun _ => (by rw [show (ka, _).1 % 1000 = ka from Nat.mod_eq_of_lt hka]; rfl), (fun h => by cases h), rfl, rfl⟩ (by omega) o1) hl
  rw [← hsz] at k9
  exact k9
theorem Z.vret {V : zV} {M : zM} {fr : Nat} {Q : Option Value → zH → Prop} {QX : String → zH → Prop} {mc ms pc : Nat} {L : zLs} {st : List Value} {G : zH}  (hr : M.2.2.2 = none) (hd : decode M.2.1 pc = .ok (.return_, 1)) (hq : Q none G) : Z V M fr Q QX mc ms pc L [] G := by
  intro p e R s m args below meth c H locs cells slots CT ST ls C h1 h2 h3 h4 h5 h6 hS hR hl
  refine W.widen (k := CT) (n := ST) (by omega) (by omega) (vx_ret (W.vret C.1 C.2.1 (by rw [C.2.2.2.1]; exact hr) (fun t hT hW => ⟨none, G, rfl, hq, by rw [hT]; exact hR, hS.toF hT⟩) hS.2.2 hd C.2.2.2.2.1))
theorem Z.iret {V : zV} {M : zM} {fr : Nat} {Q : Option Value → zH → Prop} {QX : String → zH → Prop} {mc ms pc : Nat} {L : zLs} {st : List Value} {G : zH} {ty : FieldType} {v : Int32} (hr : M.2.2.2 = some ty) (hn : narrow ty (.int v) = .int v) (hd : decode M.2.1 pc = .ok (.ireturn, 1)) (hq : Q (some (.int v)) G) : Z V M fr Q QX mc ms pc L [.int v] G := by
  intro p e R s m args below meth c H locs cells slots CT ST ls C h1 h2 h3 h4 h5 h6 hS hR hl
  refine W.widen (k := CT) (n := ST) (by omega) (by omega) (vx_ret (W.zret C.1 C.2.1 (by rw [C.2.2.2.1]; exact hr) hn (fun t hT hW => ⟨some (.int v), G, rfl, hq, by rw [hT]; exact hR, hS.toF hT⟩) hS.2.2 hd C.2.2.2.2.1))
theorem Z.lret {V : zV} {M : zM} {fr : Nat} {Q : Option Value → zH → Prop} {QX : String → zH → Prop} {mc ms pc : Nat} {L : zLs} {st : List Value} {G : zH} {v : Int64} (hr : M.2.2.2 = some .long) (hd : decode M.2.1 pc = .ok (.lreturn, 1)) (hq : Q (some (.long v)) G) : Z V M fr Q QX mc ms pc L [.long v] G := by
  intro p e R s m args below meth c H locs cells slots CT ST ls C h1 h2 h3 h4 h5 h6 hS hR hl
  refine W.widen (k := CT) (n := ST) (by omega) (by omega) (vx_ret (W.lret C.1 C.2.1 (by rw [C.2.2.2.1]; exact hr) (fun t hT hW => ⟨some (.long v), G, rfl, hq, by rw [hT]; exact hR, hS.toF hT⟩) hS.2.2 hd C.2.2.2.2.1))
theorem Z.aret {V : zV} {M : zM} {fr : Nat} {Q : Option Value → zH → Prop} {QX : String → zH → Prop} {mc ms pc : Nat} {L : zLs} {st : List Value} {G : zH} {rt : FieldType} {v : Value} (hr : M.2.2.2 = some rt) (hrt : (∃ n, rt = .object n) ∨ ∃ t, rt = .array t) (hv : v = .null ∨ ∃ a, v = .ref a) (hd : decode M.2.1 pc = .ok (.areturn, 1)) (hq : Q (some v) G) : Z V M fr Q QX mc ms pc L [v] G := by
  intro p e R s m args below meth c H locs cells slots CT ST ls C h1 h2 h3 h4 h5 h6 hS hR hl
  refine W.widen (k := CT) (n := ST) (by omega) (by omega) (vx_ret (W.aret C.1 C.2.1 (by rw [C.2.2.2.1]; exact hr) hrt hv (fun t hT hW => ⟨some v, G, rfl, hq, by rw [hT]; exact hR, hS.toF hT⟩) hS.2.2 hd C.2.2.2.2.1))
