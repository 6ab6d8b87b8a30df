section
section ZRel
variable {D : va_G} {cl : List vw_C} {tys : List (Nat × FieldType)} {B : Nat}
def zUp (G : zH) (a : Nat) (e : zE) : zH := (G.1, fun q => if q = a then some e else G.2 q)
def zNew (G : zH) (e : zE) : zH := (G.1 + 1, fun q => if q = G.1 then some e else G.2 q)
theorem zUp_at (G : zH) (a : Nat) (e : zE) : (zUp G a e).2 a = some e := by simp [zUp]
theorem zUp_ne (G : zH) {a q : Nat} (e : zE) (h : q ≠ a) : (zUp G a e).2 q = G.2 q := by simp [zUp, h]
theorem zUp_sz (G : zH) (a : Nat) (e : zE) : (zUp G a e).1 = G.1 := rfl
theorem zNew_at (G : zH) (e : zE) : (zNew G e).2 G.1 = some e := by simp [zNew]
theorem zNew_ne (G : zH) {q : Nat} (e : zE) (h : q ≠ G.1) : (zNew G e).2 q = G.2 q := by simp [zNew, h]
theorem zNew_sz (G : zH) (e : zE) : (zNew G e).1 = G.1 + 1 := rfl
theorem zat.lt {q : Nat} {e : zE} {H : Heap} (h : zat D cl q e H) : q < H.size := by
  cases e with
  | inl a => obtain ⟨cell, h1, -⟩ := h; exact (Array.getElem?_eq_some_iff.mp h1).1
  | inr o => obtain ⟨r, cell, -, h1, -⟩ := h; exact (Array.getElem?_eq_some_iff.mp h1).1
theorem zat.kept {q : Nat} {e : zE} {H H1 : Heap} (h : zat D cl q e H) (hq : H1[q]? = H[q]?) : zat D cl q e H1 := by
  cases e with
  | inl a => obtain ⟨cell, h1, h2⟩ := h; exact ⟨cell, by rw [hq]; exact h1, h2⟩
  | inr o => obtain ⟨r, cell, h0, h1, h2⟩ := h; exact ⟨r, cell, h0, by rw [hq]; exact h1, h2⟩
theorem zRel.lt {G : zH} {H : Heap} (h : zRel D cl B G H) {a : Nat} {e : zE} (he : G.2 a = some e) : a < G.1 := by
  rw [← h.1]; exact (h.2 a e he).2.lt
theorem zRel.up {G : zH} {H H1 : Heap} (h : zRel D cl B G H) {a : Nat} {e : zE} (ha : B ≤ a) (h1 : zat D cl a e H1) (hz : H1.size = H.size) (ho : ∀ q, q ≠ a → H1[q]? = H[q]?) : zRel D cl B (zUp G a e) H1 := by
  refine ⟨by rw [hz]; exact h.1, fun q e' hq => ?_⟩
  by_cases hqa : q = a
  · subst hqa
    rw [zUp_at] at hq
    cases hq
    exact ⟨fun _ => ha, h1⟩
  · rw [zUp_ne G e hqa] at hq
    exact ⟨(h.2 q e' hq).1, (h.2 q e' hq).2.kept (ho q hqa)⟩
theorem zRel.new {G : zH} {H H1 : Heap} (h : zRel D cl B G H) {e : zE} (ha : B ≤ H.size) (h1 : zat D cl H.size e H1) (hz : H1.size = H.size + 1) (ho : ∀ q, q < H.size → H1[q]? = H[q]?) : zRel D cl B (zNew G e) H1 := by
  have hs := h.1
  refine ⟨by rw [hz, hs]; rfl, fun q e' hq => ?_⟩
  by_cases hqa : q = G.1
  · subst hqa
    rw [zNew_at] at hq
    cases hq
    rw [← hs]
    exact ⟨fun _ => ha, h1⟩
  · rw [zNew_ne G e hqa] at hq
    exact ⟨(h.2 q e' hq).1, (h.2 q e' hq).2.kept (ho q (h.2 q e' hq).2.lt)⟩
theorem zCell_set {cell : Cell} {n : Nat} {f : Nat → Int32} (h : cell.slots = (vp_cell 0 (n, .inl f)).slots) (j : Nat) (x : Int32) : (cell.setSlot j (.int x)).slots = (vp_cell 0 (n, .inl (upd f j x))).slots := by
  have e : (cell.setSlot j (.int x)).slots = ((vp_cell 0 (n, .inl f)).setSlot j (.int x)).slots := by simp [Cell.setSlot, h]
  rw [e, vp_cell_i, vp_cell_i, arrV_store]
  congr 2
  funext q
  by_cases hq : q = j
  · subst hq; simp [updV, upd]
  · simp [updV, upd, hq]
theorem zCell_setq {cell : Cell} {n : Nat} {f : Nat → Option Nat} (h : cell.slots = (vp_cell 0 (n, .inr (.inr (.inr (.inr f))))).slots) (j : Nat) (x : Option Nat) : (cell.setSlot j (va_rf x)).slots = (vp_cell 0 (n, .inr (.inr (.inr (.inr (va_up f j x)))))).slots := by
  have e : (cell.setSlot j (va_rf x)).slots = ((vp_cell 0 (n, .inr (.inr (.inr (.inr f))))).setSlot j (va_rf x)).slots := by simp [Cell.setSlot, h]
  rw [e, vp_cell_q, vp_cell_q, arrV_store]
  congr 2
  funext q
  by_cases hq : q = j
  · subst hq; simp [updV, va_up]
  · simp [updV, va_up, hq]
theorem zCell_ex (cA : ClassId) (n : Nat) (f : Nat → Int32) (j : Nat) (x : Int32) : (vp_cell cA (n, .inl f)).setSlot j (.int x) = vp_cell cA (n, .inl (upd f j x)) := by
  rw [vp_cell_i, vp_cell_i, arrV_store]
  congr 2
  funext q
  by_cases hq : q = j
  · subst hq; simp [updV, upd]
  · simp [updV, upd, hq]
theorem zCell_exq (cA : ClassId) (n : Nat) (f : Nat → Option Nat) (j : Nat) (x : Option Nat) : (vp_cell cA (n, .inr (.inr (.inr (.inr f))))).setSlot j (va_rf x) = vp_cell cA (n, .inr (.inr (.inr (.inr (va_up f j x))))) := by
  rw [vp_cell_q, vp_cell_q, arrV_store]
  congr 2
  funext q
  by_cases hq : q = j
  · subst hq; simp [updV, va_up]
  · simp [updV, va_up, hq]
theorem zArrOf {s : State} {cA : ClassId} {ty : FieldType} {cell : Cell} (h : ArrOfT s cA ty) (hc : cell.cls = cA) (hv : cell.vm.isStatics = false) : s.isArrayOf cell ty := by
  obtain ⟨-, k, hk, hk2⟩ := h 0 (fun _ => .null)
  exact ⟨fun q hq => (by rw [hq] at hv; cases hv), k, (by rw [hc]; exact hk), hk2⟩
theorem zSz_i {cell : Cell} {n : Nat} {f : Nat → Int32} (h : cell.slots = (vp_cell 0 (n, .inl f)).slots) : cell.slots.size = n := by rw [h, vp_cell_i, arrV_size]
theorem zSz_q {cell : Cell} {n : Nat} {f : Nat → Option Nat} (h : cell.slots = (vp_cell 0 (n, .inr (.inr (.inr (.inr f))))).slots) : cell.slots.size = n := by rw [h, vp_cell_q, arrV_size]
theorem zGt_i {cell : Cell} {n j : Nat} {f : Nat → Int32} (h : cell.slots = (vp_cell 0 (n, .inl f)).slots) (hj : j < n) : cell.slots[j]? = some (.int (f j)) := by rw [h, vp_cell_i, arrV_read _ _ hj]
theorem zGt_q {cell : Cell} {n j : Nat} {f : Nat → Option Nat} (h : cell.slots = (vp_cell 0 (n, .inr (.inr (.inr (.inr f))))).slots) (hj : j < n) : cell.slots[j]? = some (va_rf (f j)) := by rw [h, vp_cell_q, arrV_read _ _ hj]
theorem zKn.moved {U u : State} (hvm : u.vm.Alike U.vm) (h : zKn D cl tys u) : zKn D cl tys U := va_K.moved hvm h
theorem zTy_at {k t0 : Nat} {ty : FieldType} (h : tys[t0]? = some (k, ty)) : (zTy D tys)[t0]? = some (D.1 k, ty) := by
  unfold zTy
  rw [List.getElem?_map, h]
  rfl
end ZRel
theorem va_S.put1 {A : Nat → Prop} {H0 H H1 : Heap} {locs : List Loc} {a i : Nat} (hS : va_S A H0 H locs) (ha : A a) (hz : H1.size = H.size) (ho : ∀ q, q ≠ a → H1[q]? = H[q]?) : va_S A H0 H1 (locs ++ [⟨a, i⟩]) := by
  refine ⟨by rw [hz]; exact hS.1, fun q hq hn => ?_, fun x hx => ?_⟩
  · rw [ho q (fun h => hn (by rw [h]; exact ha))]
    exact hS.2.1 q hq hn
  · rcases List.mem_append.mp hx with h | h
    · exact hS.2.2 x h
    · rw [List.mem_singleton.mp h]; exact ha
theorem va_S.new1 {A : Nat → Prop} {H0 H H1 : Heap} {locs : List Loc} (hS : va_S A H0 H locs) (hz : H1.size = H.size + 1) (ho : ∀ q, q < H.size → H1[q]? = H[q]?) : va_S A H0 H1 locs :=
  ⟨Nat.le_trans hS.1 (by omega), fun x g1 g2 => (ho x (Nat.lt_of_lt_of_le g1 hS.1)).trans (hS.2.1 x g1 g2), hS.2.2⟩
theorem va_S.toF {A : Nat → Prop} {s t : State} {H : Heap} {locs : List Loc} (hS : va_S A s.heap H locs) (h : t.heap = H) : va_F A s t := by
  subst h; exact ⟨hS.1, hS.2.1⟩
theorem zx_ofW {l : Launch} {y : MethodName} {ws ws' : List Cond} {rm : Room} {Pc : Array Value → State → Prop} {Qc : Array Value → State → Outcome → State → Prop} {XC : String → State → State → Prop} {mc ms : Nat} {free : Addr → Prop} {cc : ByteArray} {maxL : Nat} {ret : Option FieldType}
    (hy : plainFor y = true) (hw : ws = Cond.code y cc maxL ret :: ws')
    (body : ∀ p e s m args below meth c s₁, BodyLoose p l y (headSpec ws rm) cc maxL ret e s m args below meth c s₁ → c.maxLocals = maxL → (∀ x ∈ c.exceptionTable.toList, False) → Pc args s →
      W p l e (headSpec ws rm).room s m args below meth c s.heap [] 0 0 (vx_MQ below Qc XC args s mc ms free) (entryFrame m args maxL)) : vx_Met l y ws rm Pc Qc XC mc ms free := by
  refine MetFree.of_bodySF (code := cc) (maxLocals := maxL) (ret := ret) hy ?_ ?_
  · intro args s m h hn
    obtain ⟨meth, c, h1, h2, h3, h4, h5, h6, -, -⟩ := Cond.code_spec hn (atoms_spec (ws := ws) h _ (by rw [hw]; exact List.mem_cons_self))
    exact ⟨meth, c, h1, h2, h3, h4, h5, h6⟩
  · intro p e s m args below meth c s₁ B hml hP _
    have hh0 : s₁.heap = s.heap := by rw [B.state]; rfl
    have ht : ∀ x ∈ c.exceptionTable.toList, False := by
      obtain ⟨meth9, c9, h1, h2, -, -, -, -, h7, -⟩ := Cond.code_spec B.named (atoms_spec (ws := ws) B.pre _ (by rw [hw]; exact List.mem_cons_self))
      cases Option.some.inj (h1.symm.trans B.method)
      cases Option.some.inj (h2.symm.trans (Stand.of_body B).code)
      intro x hx
      rw [Array.isEmpty_iff.mp h7] at hx
      cases hx
    obtain ⟨t, a1, o, b1, b2, b3⟩ := body p e s m args below meth c s₁ B hml ht hP s₁ hh0 (Stand.of_body B)
    exact ⟨t, o, a1, b1, b2, b3⟩
/-- the contract out of the body's walk -/
theorem zMet.of {V : zV} {M : zM} {fr mc ms : Nat} {As : List Value} {G : zH} {Q : Option Value → zH → Prop} {QX : String → zH → Prop} (hy : plainFor M.1 = true) (hn : (lg_sl As).length ≤ M.2.2.1)
    (L : zLs) (hL : ∀ ls, lv_has ls M.2.2.1 (lv_args 0 As) → zL ls L) (k : Z V M fr Q QX mc ms 0 L [] G) : zMet V M fr mc ms As G Q QX := by
  refine zx_ofW (cc := M.2.1) (maxL := M.2.2.1) (ret := M.2.2.2) hy rfl ?_
  intro p e s m args below meth c s₁ Bd hml hex hv
  obtain ⟨rfl, hRl, hK, hO, hB⟩ := hv
  have hts := atoms_spec (ws := zW M) Bd.pre
  have hl := lv_entry As hn
  rw [lg_entry_eq]
  generalize (lg_sl As ++ List.replicate (M.2.2.1 - (lg_sl As).length) Slot.unset).toArray = ls at hl ⊢
  exact k p e _ s m _ below meth c s.heap [] 0 0 mc ms ls
    ⟨Bd.exec, Bd.bytes, hml, Bd.returns, Bd.notSynchronized, findClass_of_methodNamed Bd.named, (name_of_methodNamed Bd.named Bd.method).1, fun w hw => hts w (List.mem_cons_of_mem _ hw), hK, hO, hB, hex⟩
    (Nat.le_refl _) (Nat.le_refl _) (Nat.le_refl _) (Nat.le_refl _) (by omega) (by omega) va_S.rf hRl (hL ls hl)
-- branches
theorem Z.if_eq {V : zV} {M : zM} {fr : Nat} {Q : Option Value → zH → Prop} {QX : String → zH → Prop} {mc ms pc : Nat} {L : zLs} {st : List Value} {G : zH} {x : Int32} {off : Int} {tgt : Nat} (hd : decode M.2.1 pc = .ok (.ifCond .eq off, 3)) (ht : (pc : Int) + off = (tgt : Int)) (kt : x = 0 → Z V M fr Q QX mc ms tgt L st G) (kf : ¬ x = 0 → Z V M fr Q QX mc ms (pc + 3) L st G) : Z V M fr Q QX mc ms pc L (.int x :: st) G := by
  intro p e R s m args below meth c H locs cells slots CT ST ls C h1 h2 h3 h4 h5 h6 hS hR hl
  exact lv_if_eq C.1 C.2.1 hd ht (fun q => (kt q) p e R s m args below meth c H locs cells slots CT ST ls C h1 h2 h3 h4 h5 h6 hS hR hl) (fun q => kf q p e R s m args below meth c H locs cells slots CT ST ls C h1 h2 h3 h4 h5 h6 hS hR hl)
theorem Z.ic_eq {V : zV} {M : zM} {fr : Nat} {Q : Option Value → zH → Prop} {QX : String → zH → Prop} {mc ms pc : Nat} {L : zLs} {st : List Value} {G : zH} {x y : Int32} {off : Int} {tgt : Nat} (hd : decode M.2.1 pc = .ok (.if_icmp .eq off, 3)) (ht : (pc : Int) + off = (tgt : Int)) (kt : x = y → Z V M fr Q QX mc ms tgt L st G) (kf : ¬ x = y → Z V M fr Q QX mc ms (pc + 3) L st G) : Z V M fr Q QX mc ms pc L (.int y :: .int x :: st) G := by
  intro p e R s m args below meth c H locs cells slots CT ST ls C h1 h2 h3 h4 h5 h6 hS hR hl
  exact lv_icmp_eq C.1 C.2.1 hd ht (fun q => (kt q) p e R s m args below meth c H locs cells slots CT ST ls C h1 h2 h3 h4 h5 h6 hS hR hl) (fun q => kf q p e R s m args below meth c H locs cells slots CT ST ls C h1 h2 h3 h4 h5 h6 hS hR hl)
theorem Z.if_ne {V : zV} {M : zM} {fr : Nat} {Q : Option Value → zH → Prop} {QX : String → zH → Prop} {mc ms pc : Nat} {L : zLs} {st : List Value} {G : zH} {x : Int32} {off : Int} {tgt : Nat} (hd : decode M.2.1 pc = .ok (.ifCond .ne off, 3)) (ht : (pc : Int) + off = (tgt : Int)) (kt : ¬ x = 0 → Z V M fr Q QX mc ms tgt L st G) (kf : x = 0 → Z V M fr Q QX mc ms (pc + 3) L st G) : Z V M fr Q QX mc ms pc L (.int x :: st) G := by
  intro p e R s m args below meth c H locs cells slots CT ST ls C h1 h2 h3 h4 h5 h6 hS hR hl
  exact lv_if_ne C.1 C.2.1 hd ht (fun q => (kt q) p e R s m args below meth c H locs cells slots CT ST ls C h1 h2 h3 h4 h5 h6 hS hR hl) (fun q => kf q p e R s m args below meth c H locs cells slots CT ST ls C h1 h2 h3 h4 h5 h6 hS hR hl)
theorem Z.ic_ne {V : zV} {M : zM} {fr : Nat} {Q : Option Value → zH → Prop} {QX : String → zH → Prop} {mc ms pc : Nat} {L : zLs} {st : List Value} {G : zH} {x y : Int32} {off : Int} {tgt : Nat} (hd : decode M.2.1 pc = .ok (.if_icmp .ne off, 3)) (ht : (pc : Int) + off = (tgt : Int)) (kt : ¬ x = y → Z V M fr Q QX mc ms tgt L st G) (kf : x = y → Z V M fr Q QX mc ms (pc + 3) L st G) : Z V M fr Q QX mc ms pc L (.int y :: .int x :: st) G := by
  intro p e R s m args below meth c H locs cells slots CT ST ls C h1 h2 h3 h4 h5 h6 hS hR hl
  exact lv_icmp_ne C.1 C.2.1 hd ht (fun q => (kt q) p e R s m args below meth c H locs cells slots CT ST ls C h1 h2 h3 h4 h5 h6 hS hR hl) (fun q => kf q p e R s m args below meth c H locs cells slots CT ST ls C h1 h2 h3 h4 h5 h6 hS hR hl)
theorem Z.if_lt {V : zV} {M : zM} {fr : Nat} {Q : Option Value → zH → Prop} {QX : String → zH → Prop} {mc ms pc : Nat} {L : zLs} {st : List Value} {G : zH} {x : Int32} {off : Int} {tgt : Nat} (hd : decode M.2.1 pc = .ok (.ifCond .lt off, 3)) (ht : (pc : Int) + off = (tgt : Int)) (kt : x < 0 → Z V M fr Q QX mc ms tgt L st G) (kf : ¬ x < 0 → Z V M fr Q QX mc ms (pc + 3) L st G) : Z V M fr Q QX mc ms pc L (.int x :: st) G := by
  intro p e R s m args below meth c H locs cells slots CT ST ls C h1 h2 h3 h4 h5 h6 hS hR hl
  exact lv_if_lt C.1 C.2.1 hd ht (fun q => (kt q) p e R s m args below meth c H locs cells slots CT ST ls C h1 h2 h3 h4 h5 h6 hS hR hl) (fun q => kf q p e R s m args below meth c H locs cells slots CT ST ls C h1 h2 h3 h4 h5 h6 hS hR hl)
theorem Z.ic_lt {V : zV} {M : zM} {fr : Nat} {Q : Option Value → zH → Prop} {QX : String → zH → Prop} {mc ms pc : Nat} {L : zLs} {st : List Value} {G : zH} {x y : Int32} {off : Int} {tgt : Nat} (hd : decode M.2.1 pc = .ok (.if_icmp .lt off, 3)) (ht : (pc : Int) + off = (tgt : Int)) (kt : x < y → Z V M fr Q QX mc ms tgt L st G) (kf : ¬ x < y → Z V M fr Q QX mc ms (pc + 3) L st G) : Z V M fr Q QX mc ms pc L (.int y :: .int x :: st) G := by
  intro p e R s m args below meth c H locs cells slots CT ST ls C h1 h2 h3 h4 h5 h6 hS hR hl
  exact lv_icmp_lt C.1 C.2.1 hd ht (fun q => (kt q) p e R s m args below meth c H locs cells slots CT ST ls C h1 h2 h3 h4 h5 h6 hS hR hl) (fun q => kf q p e R s m args below meth c H locs cells slots CT ST ls C h1 h2 h3 h4 h5 h6 hS hR hl)
theorem Z.if_ge {V : zV} {M : zM} {fr : Nat} {Q : Option Value → zH → Prop} {QX : String → zH → Prop} {mc ms pc : Nat} {L : zLs} {st : List Value} {G : zH} {x : Int32} {off : Int} {tgt : Nat} (hd : decode M.2.1 pc = .ok (.ifCond .ge off, 3)) (ht : (pc : Int) + off = (tgt : Int)) (kt : 0 ≤ x → Z V M fr Q QX mc ms tgt L st G) (kf : ¬ 0 ≤ x → Z V M fr Q QX mc ms (pc + 3) L st G) : Z V M fr Q QX mc ms pc L (.int x :: st) G := by
  intro p e R s m args below meth c H locs cells slots CT ST ls C h1 h2 h3 h4 h5 h6 hS hR hl
  exact lv_if_ge C.1 C.2.1 hd ht (fun q => (kt q) p e R s m args below meth c H locs cells slots CT ST ls C h1 h2 h3 h4 h5 h6 hS hR hl) (fun q => kf q p e R s m args below meth c H locs cells slots CT ST ls C h1 h2 h3 h4 h5 h6 hS hR hl)
theorem Z.ic_ge {V : zV} {M : zM} {fr : Nat} {Q : Option Value → zH → Prop} {QX : String → zH → Prop} {mc ms pc : Nat} {L : zLs} {st : List Value} {G : zH} {x y : Int32} {off : Int} {tgt : Nat} (hd : decode M.2.1 pc = .ok (.if_icmp .ge off, 3)) (ht : (pc : Int) + off = (tgt : Int)) (kt : y ≤ x → Z V M fr Q QX mc ms tgt L st G) (kf : ¬ y ≤ x → Z V M fr Q QX mc ms (pc + 3) L st G) : Z V M fr Q QX mc ms pc L (.int y :: .int x :: st) G := by
  intro p e R s m args below meth c H locs cells slots CT ST ls C h1 h2 h3 h4 h5 h6 hS hR hl
  exact lv_icmp_ge C.1 C.2.1 hd ht (fun q => (kt q) p e R s m args below meth c H locs cells slots CT ST ls C h1 h2 h3 h4 h5 h6 hS hR hl) (fun q => kf q p e R s m args below meth c H locs cells slots CT ST ls C h1 h2 h3 h4 h5 h6 hS hR hl)
theorem Z.if_gt {V : zV} {M : zM} {fr : Nat} {Q : Option Value → zH → Prop} {QX : String → zH → Prop} {mc ms pc : Nat} {L : zLs} {st : List Value} {G : zH} {x : Int32} {off : Int} {tgt : Nat} (hd : decode M.2.1 pc = .ok (.ifCond .gt off, 3)) (ht : (pc : Int) + off = (tgt : Int)) (kt : 0 < x → Z V M fr Q QX mc ms tgt L st G) (kf : ¬ 0 < x → Z V M fr Q QX mc ms (pc + 3) L st G) : Z V M fr Q QX mc ms pc L (.int x :: st) G := by
  intro p e R s m args below meth c H locs cells slots CT ST ls C h1 h2 h3 h4 h5 h6 hS hR hl
  exact lv_if_gt C.1 C.2.1 hd ht (fun q => (kt q) p e R s m args below meth c H locs cells slots CT ST ls C h1 h2 h3 h4 h5 h6 hS hR hl) (fun q => kf q p e R s m args below meth c H locs cells slots CT ST ls C h1 h2 h3 h4 h5 h6 hS hR hl)
theorem Z.ic_gt {V : zV} {M : zM} {fr : Nat} {Q : Option Value → zH → Prop} {QX : String → zH → Prop} {mc ms pc : Nat} {L : zLs} {st : List Value} {G : zH} {x y : Int32} {off : Int} {tgt : Nat} (hd : decode M.2.1 pc = .ok (.if_icmp .gt off, 3)) (ht : (pc : Int) + off = (tgt : Int)) (kt : y < x → Z V M fr Q QX mc ms tgt L st G) (kf : ¬ y < x → Z V M fr Q QX mc ms (pc + 3) L st G) : Z V M fr Q QX mc ms pc L (.int y :: .int x :: st) G := by
  intro p e R s m args below meth c H locs cells slots CT ST ls C h1 h2 h3 h4 h5 h6 hS hR hl
  exact lv_icmp_gt C.1 C.2.1 hd ht (fun q => (kt q) p e R s m args below meth c H locs cells slots CT ST ls C h1 h2 h3 h4 h5 h6 hS hR hl) (fun q => kf q p e R s m args below meth c H locs cells slots CT ST ls C h1 h2 h3 h4 h5 h6 hS hR hl)
theorem Z.if_le {V : zV} {M : zM} {fr : Nat} {Q : Option Value → zH → Prop} {QX : String → zH → Prop} {mc ms pc : Nat} {L : zLs} {st : List Value} {G : zH} {x : Int32} {off : Int} {tgt : Nat} (hd : decode M.2.1 pc = .ok (.ifCond .le off, 3)) (ht : (pc : Int) + off = (tgt : Int)) (kt : x ≤ 0 → Z V M fr Q QX mc ms tgt L st G) (kf : ¬ x ≤ 0 → Z V M fr Q QX mc ms (pc + 3) L st G) : Z V M fr Q QX mc ms pc L (.int x :: st) G := by
  intro p e R s m args below meth c H locs cells slots CT ST ls C h1 h2 h3 h4 h5 h6 hS hR hl
  exact lv_if_le C.1 C.2.1 hd ht (fun q => (kt q) p e R s m args below meth c H locs cells slots CT ST ls C h1 h2 h3 h4 h5 h6 hS hR hl) (fun q => kf q p e R s m args below meth c H locs cells slots CT ST ls C h1 h2 h3 h4 h5 h6 hS hR hl)
theorem Z.ic_le {V : zV} {M : zM} {fr : Nat} {Q : Option Value → zH → Prop} {QX : String → zH → Prop} {mc ms pc : Nat} {L : zLs} {st : List Value} {G : zH} {x y : Int32} {off : Int} {tgt : Nat} (hd : decode M.2.1 pc = .ok (.if_icmp .le off, 3)) (ht : (pc : Int) + off = (tgt : Int)) (kt : x ≤ y → Z V M fr Q QX mc ms tgt L st G) (kf : ¬ x ≤ y → Z V M fr Q QX mc ms (pc + 3) L st G) : Z V M fr Q QX mc ms pc L (.int y :: .int x :: st) G := by
  intro p e R s m args below meth c H locs cells slots CT ST ls C h1 h2 h3 h4 h5 h6 hS hR hl
  exact lv_icmp_le C.1 C.2.1 hd ht (fun q => (kt q) p e R s m args below meth c H locs cells slots CT ST ls C h1 h2 h3 h4 h5 h6 hS hR hl) (fun q => kf q p e R s m args below meth c H locs cells slots CT ST ls C h1 h2 h3 h4 h5 h6 hS hR hl)
theorem Z.goto {V : zV} {M : zM} {fr : Nat} {Q : Option Value → zH → Prop} {QX : String → zH → Prop} {mc ms pc : Nat} {L : zLs} {st : List Value} {G : zH} {off : Int} {tgt : Nat} (hd : decode M.2.1 pc = .ok (.goto off, 3)) (ht : (pc : Int) + off = (tgt : Int)) (k : Z V M fr Q QX mc ms tgt L st G) : Z V M fr Q QX mc ms pc L st G := by
  intro p e R s m args below meth c H locs cells slots CT ST ls C h1 h2 h3 h4 h5 h6 hS hR hl
  exact lv_goto C.1 C.2.1 hd ht (k p e R s m args below meth c H locs cells slots CT ST ls C h1 h2 h3 h4 h5 h6 hS hR hl)
theorem Z.ifnull_r {V : zV} {M : zM} {fr : Nat} {Q : Option Value → zH → Prop} {QX : String → zH → Prop} {mc ms pc : Nat} {L : zLs} {st : List Value} {G : zH} {x : Nat} {off : Int} (hd : decode M.2.1 pc = .ok (.ifnull off, 3)) (k : Z V M fr Q QX mc ms (pc + 3) L st G) : Z V M fr Q QX mc ms pc L (.ref x :: st) G := by
  intro p e R s m args below meth c H locs cells slots CT ST ls C h1 h2 h3 h4 h5 h6 hS hR hl
  exact lv_ifnull C.1 C.2.1 hd (k p e R s m args below meth c H locs cells slots CT ST ls C h1 h2 h3 h4 h5 h6 hS hR hl)
theorem Z.ifnonnull_n {V : zV} {M : zM} {fr : Nat} {Q : Option Value → zH → Prop} {QX : String → zH → Prop} {mc ms pc : Nat} {L : zLs} {st : List Value} {G : zH} {x : Nat} {off : Int} (hd : decode M.2.1 pc = .ok (.ifnonnull off, 3)) (k : Z V M fr Q QX mc ms (pc + 3) L st G) : Z V M fr Q QX mc ms pc L (.null :: st) G := by
  intro p e R s m args below meth c H locs cells slots CT ST ls C h1 h2 h3 h4 h5 h6 hS hR hl
  exact lv_ifnonnullN C.1 C.2.1 hd (k p e R s m args below meth c H locs cells slots CT ST ls C h1 h2 h3 h4 h5 h6 hS hR hl)
theorem Z.ifnull_n {V : zV} {M : zM} {fr : Nat} {Q : Option Value → zH → Prop} {QX : String → zH → Prop} {mc ms pc : Nat} {L : zLs} {st : List Value} {G : zH} {x : Nat} {off : Int} {tgt : Nat} (hd : decode M.2.1 pc = .ok (.ifnull off, 3)) (ht : (pc : Int) + off = (tgt : Int)) (k : Z V M fr Q QX mc ms tgt L st G) : Z V M fr Q QX mc ms pc L (.null :: st) G := by
  intro p e R s m args below meth c H locs cells slots CT ST ls C h1 h2 h3 h4 h5 h6 hS hR hl
  exact lv_ifnullN C.1 C.2.1 hd ht (k p e R s m args below meth c H locs cells slots CT ST ls C h1 h2 h3 h4 h5 h6 hS hR hl)
theorem Z.ifnonnull_r {V : zV} {M : zM} {fr : Nat} {Q : Option Value → zH → Prop} {QX : String → zH → Prop} {mc ms pc : Nat} {L : zLs} {st : List Value} {G : zH} {x : Nat} {off : Int} {tgt : Nat} (hd : decode M.2.1 pc = .ok (.ifnonnull off, 3)) (ht : (pc : Int) + off = (tgt : Int)) (k : Z V M fr Q QX mc ms tgt L st G) : Z V M fr Q QX mc ms pc L (.ref x :: st) G := by
  intro p e R s m args below meth c H locs cells slots CT ST ls C h1 h2 h3 h4 h5 h6 hS hR hl
  exact lv_ifnonnull C.1 C.2.1 hd ht (k p e R s m args below meth c H locs cells slots CT ST ls C h1 h2 h3 h4 h5 h6 hS hR hl)
theorem Z.swIn {V : zV} {M : zM} {fr : Nat} {Q : Option Value → zH → Prop} {QX : String → zH → Prop} {mc ms pc : Nat} {L : zLs} {st : List Value} {G : zH} {dflt lo hi : Int} {offs : Array Int} {len : Nat} {x : Int32} {off : Int} {tgt : Nat} (hd : decode M.2.1 pc = .ok (.tableswitch dflt lo hi offs, len)) (g1 : ¬ x.toInt < lo) (g2 : ¬ hi < x.toInt) (ho : offs[(x.toInt - lo).toNat]? = some off) (ht : (pc : Int) + off = (tgt : Int)) (k : Z V M fr Q QX mc ms tgt L st G) : Z V M fr Q QX mc ms pc L (.int x :: st) G := by
  intro p e R s m args below meth c H locs cells slots CT ST ls C h1 h2 h3 h4 h5 h6 hS hR hl
  exact lv_tableIn C.1 C.2.1 hd g1 g2 ho ht (k p e R s m args below meth c H locs cells slots CT ST ls C h1 h2 h3 h4 h5 h6 hS hR hl)
theorem Z.swOut {V : zV} {M : zM} {fr : Nat} {Q : Option Value → zH → Prop} {QX : String → zH → Prop} {mc ms pc : Nat} {L : zLs} {st : List Value} {G : zH} {dflt lo hi : Int} {offs : Array Int} {len : Nat} {x : Int32} {tgt : Nat} (hd : decode M.2.1 pc = .ok (.tableswitch dflt lo hi offs, len)) (g : x.toInt < lo ∨ hi < x.toInt) (ht : (pc : Int) + dflt = (tgt : Int)) (k : Z V M fr Q QX mc ms tgt L st G) : Z V M fr Q QX mc ms pc L (.int x :: st) G := by
  intro p e R s m args below meth c H locs cells slots CT ST ls C h1 h2 h3 h4 h5 h6 hS hR hl
  exact lv_tableOut C.1 C.2.1 hd g ht (k p e R s m args below meth c H locs cells slots CT ST ls C h1 h2 h3 h4 h5 h6 hS hR hl)
theorem Z.idiv {V : zV} {M : zM} {fr : Nat} {Q : Option Value → zH → Prop} {QX : String → zH → Prop} {mc ms pc : Nat} {L : zLs} {st : List Value} {G : zH} {x y : Int32} (hd : decode M.2.1 pc = .ok (.idiv, 1)) (hne : ¬ y = 0) (k : Z V M fr Q QX mc ms (pc + 1) L (.int (x / y) :: st) G) : Z V M fr Q QX mc ms pc L (.int y :: .int x :: st) G := by
  intro p e R s m args below meth c H locs cells slots CT ST ls C h1 h2 h3 h4 h5 h6 hS hR hl
  exact lv_idiv C.1 C.2.1 hd hne (k p e R s m args below meth c H locs cells slots CT ST ls C h1 h2 h3 h4 h5 h6 hS hR hl)
theorem Z.irem {V : zV} {M : zM} {fr : Nat} {Q : Option Value → zH → Prop} {QX : String → zH → Prop} {mc ms pc : Nat} {L : zLs} {st : List Value} {G : zH} {x y : Int32} (hd : decode M.2.1 pc = .ok (.irem, 1)) (hne : ¬ y = 0) (k : Z V M fr Q QX mc ms (pc + 1) L (.int (x - x / y * y) :: st) G) : Z V M fr Q QX mc ms pc L (.int y :: .int x :: st) G := by
  intro p e R s m args below meth c H locs cells slots CT ST ls C h1 h2 h3 h4 h5 h6 hS hR hl
  exact lv_irem C.1 C.2.1 hd hne (k p e R s m args below meth c H locs cells slots CT ST ls C h1 h2 h3 h4 h5 h6 hS hR hl)
/-- what the pool of own says at idx: the field k of the class ci -/
def zFl (cl : List vw_C) (own : String) (idx ci k : Nat) (ty : FieldType) (fin : Bool) : Prop := ∃ (C : String) (T : u_T) (N : Nat) (ref : String) (t0 : Nat → FieldType),
  cl[ci]? = some (C, T, N) ∧ k < N ∧ (∀ w ∈ u_ws C T N, w ∈ zT) ∧ Cond.fieldLink own idx ref (T k).2.1 (T k).2.2.1 ∈ zT ∧ (ref = (T k).1 ∨ Cond.sameField ref (T k).1 (T k).2.1 (T k).2.2.1 ∈ zT) ∧
  (∀ j, j < N → parseFieldDescriptor (T j).2.2.1 = some (t0 j)) ∧ (∀ a, a < N → ∀ b, b < N → a ≠ b → (T a).2.1 ≠ (T b).2.1) ∧ (T k).2.2.2 = fin ∧ t0 k = ty ∧ (fin = true → (T k).1 = own)
theorem Z.getf {V : zV} {M : zM} {fr : Nat} {Q : Option Value → zH → Prop} {QX : String → zH → Prop} {mc ms pc : Nat} {L : zLs} {st : List Value} {G : zH} {a c0 ci k idx : Nat} {fs : List Value} {v : Value} {ty : FieldType} {fin : Bool} (hf : zFl V.2.2.1 M.1.cls idx ci k ty fin) (hd : decode M.2.1 pc = .ok (.getfield idx, 3)) (hG : G.2 a = some (.inr (c0, fs))) (hcm : c0 % 1000 = ci) (hv : fs[k]? = some v) (kk : Z V M fr Q QX mc ms (pc + 3) L (v :: st) G) : Z V M fr Q QX mc ms pc L (.ref a :: st) G := by
  intro p e R s m args below meth c H locs cells slots CT ST ls C h1 h2 h3 h4 h5 h6 hS hR hl
  subst hcm
  obtain ⟨C0, T, N, ref, t0, hc, hk, hin, hlink, hsame, ht0, hnm, hfin, hty, hown2⟩ := hf
  have hts := C.2.2.2.2.2.2.2.1
  have hK : va_K V.2.1 V.2.2.1 (zTy V.2.1 V.2.2.2.1) s := C.2.2.2.2.2.2.2.2.1
  have hsm : ∀ x, s.fieldFound? (T k).1 (T k).2.1 (T k).2.2.1 = some x → s.fieldFound? ref (T k).2.1 (T k).2.2.1 = some x := by
    intro x hx
    rcases hsame with h | h
    · rw [h]; exact hx
    · exact u_same (hts _ h) x hx
  obtain ⟨-, r, cell, g1, q1, q2, q3, q3b, q3c, q4⟩ := hR.2 a _ hG
  have hr : r = (C0, T, N) := Option.some.inj (g1.symm.trans hc)
  subst hr
  obtain ⟨hSl, hfc, kC, hkC, hkind⟩ := hK.1 _ _ hc
  obtain ⟨cf, kf, fi, f, hi, hsl⟩ := hSl k hk
  refine W.getf C.1 C.2.1 C.2.2.2.2.2.1 (hts _ hlink) (hsm _ hi) (u_facts hfc hkC (u_lays hts hin hk) hi).1 q1 q3b (v := v) ?_ rfl rfl hd (kk p e R s m args below meth c H locs cells slots CT ST ls C h1 h2 h3 h4 h5 h6 hS hR hl)
  rw [hsl, q4 k v hk hv]
theorem Z.putf {V : zV} {M : zM} {fr : Nat} {Q : Option Value → zH → Prop} {QX : String → zH → Prop} {mc ms pc : Nat} {L : zLs} {st : List Value} {G : zH} {a ci k idx : Nat} {fs : List Value} {v : Value} {ty : FieldType} (hf : zFl V.2.2.1 M.1.cls idx ci k ty false) (hci : ci < 1000) (hd : decode M.2.1 pc = .ok (.putfield idx, 3)) (hG : G.2 a = some (.inr (ci, fs))) (hlt : k < fs.length) (hn : narrow ty v = v) (hfit : fits ty v = true) (kk : Z V M fr Q QX mc ms (pc + 3) L st (zUp G a (.inr (ci, fs.set k v)))) : Z V M fr Q QX mc ms pc L (v :: .ref a :: st) G := by
  intro p e R s m args below meth c H locs cells slots CT ST ls C h1 h2 h3 h4 h5 h6 hS hR hl
  have e9 : ci % 1000 = ci := Nat.mod_eq_of_lt hci
  obtain ⟨C0, T, N, ref, t0, hc, hk, hin, hlink, hsame, ht0, hnm, hfin, hty, hown2⟩ := hf
  have hts := C.2.2.2.2.2.2.2.1
  have hK : va_K V.2.1 V.2.2.1 (zTy V.2.1 V.2.2.2.1) s := C.2.2.2.2.2.2.2.2.1
  have hsm : ∀ x, s.fieldFound? (T k).1 (T k).2.1 (T k).2.2.1 = some x → s.fieldFound? ref (T k).2.1 (T k).2.2.1 = some x := by
    intro x hx
    rcases hsame with h | h
    · rw [h]; exact hx
    · exact u_same (hts _ h) x hx
  have hap := va_apart (own := M.1.cls) hts hin t0 ht0 hnm hK hc
  obtain ⟨hB0, r, cell, g1, q1, q2, q3, q3b, q3c, q4⟩ := hR.2 a _ hG
  have hBa : zA V a := hB0 (by show decide (1000 ≤ ci) = false; exact decide_eq_false (by omega))
  have q3 : cell.vm = .none := q3 hci
  dsimp only at g1 q2 q4
  rw [e9] at g1 q2 q4
  have hr : r = (C0, T, N) := Option.some.inj (g1.symm.trans hc)
  subst hr
  obtain ⟨hSl, hfc, kC, hkC, hkind⟩ := hK.1 ci _ hc
  obtain ⟨cf, kf, fi, f, hi, hsl⟩ := hSl k hk
  have hlay := hts _ (hin _ (u_in_lay hk))
  unfold u_lay at hlay
  have hst := (u_facts hfc hkC (u_lays hts hin hk) hi).1
  have hdd : parseFieldDescriptor (T k).2.2.1 = some ty := by rw [ht0 k hk, hty]
  have hsz9 : V.2.1.2 ci k < cell.slots.size := k2_hasslot (q4 k _ hk (List.getElem?_eq_getElem hlt))
  rw [if_neg (by rw [hfin]; decide)] at hlay
  have h9 := u_store hfc hkC hkind hlay hi hdd hn hfit
  refine W.putK C.1 C.2.1 (f := f) ⟨C.2.2.2.2.2.1, hts _ hlink, ⟨_, _, _, hsm _ hi⟩, hst⟩ (by rw [q2]; exact h9) q1 q3 (by rw [hsl]; exact hsz9) rfl rfl hd fun H' e1 e2 e3 => ?_
  rw [hsl] at e1 ⊢
  refine kk p e R s m args below meth c H' _ cells slots CT ST ls C h1 h2 h3 h4 h5 h6 (hS.put1 hBa e2 e3) (hR.up hBa ?_ e2 e3) hl
  refine ⟨_, _, (by rw [e9]; exact hc), e1, (by rw [e9]; exact q2), fun _ => q3, q3b, q3c, fun j w hj hw => ?_⟩
  dsimp only
  rw [e9]
  by_cases hjk : j = k
  · subst hjk
    rw [List.getElem?_set_self hlt] at hw
    cases hw
    simp [Cell.setSlot, hsz9]
  · rw [List.getElem?_set_ne (fun q => hjk q.symm)] at hw
    have := q4 j w hj hw
    simp only [Cell.setSlot]
    rw [Array.getElem?_setIfInBounds_ne (fun q => hap j k hj hk hjk q.symm)]
    exact this
theorem Z.putF {V : zV} {M : zM} {fr : Nat} {Q : Option Value → zH → Prop} {QX : String → zH → Prop} {mc ms pc : Nat} {L : zLs} {st : List Value} {G : zH} {a ci k idx : Nat} {fs : List Value} {v : Value} {ty : FieldType} (hf : zFl V.2.2.1 M.1.cls idx ci k ty true) (hin2 : M.1.name = "<init>") (hci : ci < 1000) (hd : decode M.2.1 pc = .ok (.putfield idx, 3)) (hG : G.2 a = some (.inr (ci, fs))) (hlt : k < fs.length) (hn : narrow ty v = v) (hfit : fits ty v = true) (kk : Z V M fr Q QX mc ms (pc + 3) L st (zUp G a (.inr (ci, fs.set k v)))) : Z V M fr Q QX mc ms pc L (v :: .ref a :: st) G := by
  intro p e R s m args below meth c H locs cells slots CT ST ls C h1 h2 h3 h4 h5 h6 hS hR hl
  have e9 : ci % 1000 = ci := Nat.mod_eq_of_lt hci
  obtain ⟨C0, T, N, ref, t0, hc, hk, hin, hlink, hsame, ht0, hnm, hfin, hty, hown2⟩ := hf
  have hts := C.2.2.2.2.2.2.2.1
  have hK : va_K V.2.1 V.2.2.1 (zTy V.2.1 V.2.2.2.1) s := C.2.2.2.2.2.2.2.2.1
  have hsm : ∀ x, s.fieldFound? (T k).1 (T k).2.1 (T k).2.2.1 = some x → s.fieldFound? ref (T k).2.1 (T k).2.2.1 = some x := by
    intro x hx
    rcases hsame with h | h
    · rw [h]; exact hx
    · exact u_same (hts _ h) x hx
  have hap := va_apart (own := M.1.cls) hts hin t0 ht0 hnm hK hc
  obtain ⟨hB0, r, cell, g1, q1, q2, q3, q3b, q3c, q4⟩ := hR.2 a _ hG
  have hBa : zA V a := hB0 (by show decide (1000 ≤ ci) = false; exact decide_eq_false (by omega))
  have q3 : cell.vm = .none := q3 hci
  dsimp only at g1 q2 q4
  rw [e9] at g1 q2 q4
  have hr : r = (C0, T, N) := Option.some.inj (g1.symm.trans hc)
  subst hr
  obtain ⟨hSl, hfc, kC, hkC, hkind⟩ := hK.1 ci _ hc
  obtain ⟨cf, kf, fi, f, hi, hsl⟩ := hSl k hk
  have hlay := hts _ (hin _ (u_in_lay hk))
  unfold u_lay at hlay
  have hst := (u_facts hfc hkC (u_lays hts hin hk) hi).1
  have hdd : parseFieldDescriptor (T k).2.2.1 = some ty := by rw [ht0 k hk, hty]
  have hsz9 : V.2.1.2 ci k < cell.slots.size := k2_hasslot (q4 k _ hk (List.getElem?_eq_getElem hlt))
  rw [if_pos hfin] at hlay
  have hcf : m.cls = cf := by
    obtain ⟨_, _, c', _, _, _, -, -, hf', -, -, -, hown3, -⟩ := Cond.laysFinal_spec hlay
    have e1 : c' = cf := by have := hi.symm.trans hf'; simp at this; exact this.1.symm
    rw [hown2 rfl] at hown3
    rw [← e1]; exact Option.some.inj (C.2.2.2.2.2.1.symm.trans hown3)
  have h9 := u_fits hfc hkC hkind (Or.inr hlay) hi hdd hn hfit
  refine W.putFinK C.1 C.2.1 C.2.2.2.2.2.1 (hts _ hlink) (hsm _ hi) hst hcf (C.2.2.2.2.2.2.1.trans hin2) (by rw [q2]; exact h9) q1 q3 (by rw [hsl]; exact hsz9) rfl rfl hd fun H' e1 e2 e3 => ?_
  rw [hsl] at e1 ⊢
  refine kk p e R s m args below meth c H' _ cells slots CT ST ls C h1 h2 h3 h4 h5 h6 (hS.put1 hBa e2 e3) (hR.up hBa ?_ e2 e3) hl
  refine ⟨_, _, (by rw [e9]; exact hc), e1, (by rw [e9]; exact q2), fun _ => q3, q3b, q3c, fun j w hj hw => ?_⟩
  dsimp only
  rw [e9]
  by_cases hjk : j = k
  · subst hjk
    rw [List.getElem?_set_self hlt] at hw
    cases hw
    simp [Cell.setSlot, hsz9]
  · rw [List.getElem?_set_ne (fun q => hjk q.symm)] at hw
    have := q4 j w hj hw
    simp only [Cell.setSlot]
    rw [Array.getElem?_setIfInBounds_ne (fun q => hap j k hj hk hjk q.symm)]
    exact this
theorem zArrName {D : va_G} {cl : List vw_C} {tys : List (Nat × FieldType)} {s : State} (hK : va_K D cl (zTy D tys) s) {t0 ka : Nat} {ty : FieldType} (ht : tys[t0]? = some (ka, ty)) : s.vm.findClass ("[" ++ ty.toString) = some (D.1 ka) := by
  have h := (hK.2 t0 _ (zTy_at ht)).2
  cases ty <;> first | exact h | (obtain ⟨kA, comp, k1, k2, k3, k4⟩ := h; exact k4)
abbrev zI (k n : Nat) (f : Nat → Int32) : zE := .inl (k, n, .inl f)
abbrev zQ (k n : Nat) (f : Nat → Option Nat) : zE := .inl (k, n, .inr (.inr (.inr (.inr f))))
theorem Z.iald {V : zV} {M : zM} {fr : Nat} {Q : Option Value → zH → Prop} {QX : String → zH → Prop} {mc ms pc : Nat} {L : zLs} {st : List Value} {G : zH} {a k0 ka n t0 : Nat} {f : Nat → Int32} {i : Int32} (hd : decode M.2.1 pc = .ok (.iaload, 1)) (ht : V.2.2.2.1[t0]? = some (ka, .int)) (hG : G.2 a = some (zI k0 n f)) (hkm : k0 % 1000 = ka) (hin : vp_in i n) (kk : Z V M fr Q QX mc ms (pc + 1) L (.int (f i.toNatClampNeg) :: st) G) : Z V M fr Q QX mc ms pc L (.int i :: .ref a :: st) G := by
  intro p e R s m args below meth c H locs cells slots CT ST ls C h1 h2 h3 h4 h5 h6 hS hR hl
  have hK : va_K V.2.1 V.2.2.1 (zTy V.2.1 V.2.2.2.1) s := C.2.2.2.2.2.2.2.2.1
  subst hkm
  have hlt : i.toNatClampNeg < n := Nat.not_le.mp fun q => hin (Or.inr q)
  obtain ⟨-, cell, q1, q2, q3, q4, q5, q6⟩ := hR.2 a _ hG
  exact W.iald (v := .int (f i.toNatClampNeg)) C.1 C.2.1 q1 (zArrOf (hK.2 t0 _ (zTy_at ht)).1 q2 q5) q4 (by rw [zSz_i q6]; exact hin) (zGt_i q6 hlt) rfl rfl hd (kk p e R s m args below meth c H locs cells slots CT ST ls C h1 h2 h3 h4 h5 h6 hS hR hl)
theorem Z.bald {V : zV} {M : zM} {fr : Nat} {Q : Option Value → zH → Prop} {QX : String → zH → Prop} {mc ms pc : Nat} {L : zLs} {st : List Value} {G : zH} {a k0 ka n t0 : Nat} {f : Nat → Int32} {i : Int32} (hd : decode M.2.1 pc = .ok (.baload, 1)) (ht : V.2.2.2.1[t0]? = some (ka, .byte)) (hG : G.2 a = some (zI k0 n f)) (hkm : k0 % 1000 = ka) (hin : vp_in i n) (kk : Z V M fr Q QX mc ms (pc + 1) L (.int (f i.toNatClampNeg) :: st) G) : Z V M fr Q QX mc ms pc L (.int i :: .ref a :: st) G := by
  intro p e R s m args below meth c H locs cells slots CT ST ls C h1 h2 h3 h4 h5 h6 hS hR hl
  have hK : va_K V.2.1 V.2.2.1 (zTy V.2.1 V.2.2.2.1) s := C.2.2.2.2.2.2.2.2.1
  subst hkm
  have hlt : i.toNatClampNeg < n := Nat.not_le.mp fun q => hin (Or.inr q)
  obtain ⟨-, cell, q1, q2, q3, q4, q5, q6⟩ := hR.2 a _ hG
  exact W.bald (v := .int (f i.toNatClampNeg)) C.1 C.2.1 q1 (zArrOf (hK.2 t0 _ (zTy_at ht)).1 q2 q5) q4 (by rw [zSz_i q6]; exact hin) (zGt_i q6 hlt) rfl rfl hd (kk p e R s m args below meth c H locs cells slots CT ST ls C h1 h2 h3 h4 h5 h6 hS hR hl)
theorem Z.zald {V : zV} {M : zM} {fr : Nat} {Q : Option Value → zH → Prop} {QX : String → zH → Prop} {mc ms pc : Nat} {L : zLs} {st : List Value} {G : zH} {a k0 ka n t0 : Nat} {f : Nat → Int32} {i : Int32} (hd : decode M.2.1 pc = .ok (.baload, 1)) (ht : V.2.2.2.1[t0]? = some (ka, .boolean)) (hG : G.2 a = some (zI k0 n f)) (hkm : k0 % 1000 = ka) (hin : vp_in i n) (kk : Z V M fr Q QX mc ms (pc + 1) L (.int (f i.toNatClampNeg) :: st) G) : Z V M fr Q QX mc ms pc L (.int i :: .ref a :: st) G := by
  intro p e R s m args below meth c H locs cells slots CT ST ls C h1 h2 h3 h4 h5 h6 hS hR hl
  have hK : va_K V.2.1 V.2.2.1 (zTy V.2.1 V.2.2.2.1) s := C.2.2.2.2.2.2.2.2.1
  subst hkm
  have hlt : i.toNatClampNeg < n := Nat.not_le.mp fun q => hin (Or.inr q)
  obtain ⟨-, cell, q1, q2, q3, q4, q5, q6⟩ := hR.2 a _ hG
  exact W.zald (v := .int (f i.toNatClampNeg)) C.1 C.2.1 q1 (zArrOf (hK.2 t0 _ (zTy_at ht)).1 q2 q5) q4 (by rw [zSz_i q6]; exact hin) (zGt_i q6 hlt) rfl rfl hd (kk p e R s m args below meth c H locs cells slots CT ST ls C h1 h2 h3 h4 h5 h6 hS hR hl)
theorem Z.aald {V : zV} {M : zM} {fr : Nat} {Q : Option Value → zH → Prop} {QX : String → zH → Prop} {mc ms pc : Nat} {L : zLs} {st : List Value} {G : zH} {a k0 ka n t0 : Nat} {C1 : String} {f : Nat → Option Nat} {i : Int32} (hd : decode M.2.1 pc = .ok (.aaload, 1)) (ht : V.2.2.2.1[t0]? = some (ka, .object C1)) (hG : G.2 a = some (zQ k0 n f)) (hkm : k0 % 1000 = ka) (hin : vp_in i n) (kk : Z V M fr Q QX mc ms (pc + 1) L (va_rf (f i.toNatClampNeg) :: st) G) : Z V M fr Q QX mc ms pc L (.int i :: .ref a :: st) G := by
  intro p e R s m args below meth c H locs cells slots CT ST ls C h1 h2 h3 h4 h5 h6 hS hR hl
  have hK : va_K V.2.1 V.2.2.1 (zTy V.2.1 V.2.2.2.1) s := C.2.2.2.2.2.2.2.2.1
  subst hkm
  have hlt : i.toNatClampNeg < n := Nat.not_le.mp fun q => hin (Or.inr q)
  obtain ⟨-, cell, q1, q2, q3, q4, q5, q6⟩ := hR.2 a _ hG
  exact W.aald (v := va_rf (f i.toNatClampNeg)) (ty := .object C1) C.1 C.2.1 q1 (zArrOf (hK.2 t0 _ (zTy_at ht)).1 q2 q5) rfl q4 (by rw [zSz_q q6]; exact hin) (zGt_q q6 hlt) rfl rfl hd (kk p e R s m args below meth c H locs cells slots CT ST ls C h1 h2 h3 h4 h5 h6 hS hR hl)
theorem Z.alen {V : zV} {M : zM} {fr : Nat} {Q : Option Value → zH → Prop} {QX : String → zH → Prop} {mc ms pc : Nat} {L : zLs} {st : List Value} {G : zH} {a k0 ka t0 : Nat} {x : vp_A} {ty : FieldType} {v : Int32} (hd : decode M.2.1 pc = .ok (.arraylength, 1)) (ht : V.2.2.2.1[t0]? = some (ka, ty)) (hG : G.2 a = some (.inl (k0, x))) (hkm : k0 % 1000 = ka) (hv : Int32.ofNat x.1 = v) (kk : Z V M fr Q QX mc ms (pc + 1) L (.int v :: st) G) : Z V M fr Q QX mc ms pc L (.ref a :: st) G := by
  intro p e R s m args below meth c H locs cells slots CT ST ls C h1 h2 h3 h4 h5 h6 hS hR hl
  have hK : va_K V.2.1 V.2.2.1 (zTy V.2.1 V.2.2.2.1) s := C.2.2.2.2.2.2.2.2.1
  subst hkm hv
  obtain ⟨-, cell, q1, q2, q3, q4, q5, q6⟩ := hR.2 a _ hG
  have hz : cell.slots.size = x.1 := by
    rw [q6]
    obtain ⟨n, f | f | f | f | f⟩ := x
    · rw [vp_cell_i, arrV_size]
    · rw [vp_cell_l, arrV_size]
    · rw [vp_cell_f, arrV_size]
    · rw [vp_cell_d, arrV_size]
    · rw [vp_cell_q, arrV_size]
  exact W.alen (n := Int32.ofNat x.1) C.1 C.2.1 q1 (zArrOf (hK.2 t0 _ (zTy_at ht)).1 q2 q5) (by rw [hz]) rfl rfl hd (kk p e R s m args below meth c H locs cells slots CT ST ls C h1 h2 h3 h4 h5 h6 hS hR hl)
theorem Z.iast {V : zV} {M : zM} {fr : Nat} {Q : Option Value → zH → Prop} {QX : String → zH → Prop} {mc ms pc : Nat} {L : zLs} {st : List Value} {G : zH} {a ka n t0 : Nat} {f : Nat → Int32} {i x : Int32} (hd : decode M.2.1 pc = .ok (.iastore, 1)) (ht : V.2.2.2.1[t0]? = some (ka, .int)) (hka : ka < 1000) (hG : G.2 a = some (zI ka n f)) (hin : vp_in i n) (kk : Z V M fr Q QX mc ms (pc + 1) L st (zUp G a (zI ka n (upd f i.toNatClampNeg x)))) : Z V M fr Q QX mc ms pc L (.int x :: .int i :: .ref a :: st) G := by
  intro p e_ R s m args below meth c H locs cells slots CT ST ls C h1 h2 h3 h4 h5 h6 hS hR hl
  have hK : va_K V.2.1 V.2.2.1 (zTy V.2.1 V.2.2.2.1) s := C.2.2.2.2.2.2.2.2.1
  have e9 : ka % 1000 = ka := Nat.mod_eq_of_lt hka
  obtain ⟨hB0, cell, q1, q2, q3, q4, q5, q6⟩ := hR.2 a _ hG
  have hBa : zA V a := hB0 (by show decide (1000 ≤ ka) = false; exact decide_eq_false (by omega))
  have q2 : cell.cls = V.2.1.1 ka := by rw [← e9]; exact q2
  refine W.iast C.1 C.2.1 q1 (zArrOf (hK.2 t0 _ (zTy_at ht)).1 q2 q5) q4 (by rw [zSz_i q6]; exact hin) rfl rfl hd fun H1 e z oq => ?_
  refine kk p e_ R s m args below meth c H1 _ cells slots CT ST ls C h1 h2 h3 h4 h5 h6 (hS.put1 hBa z oq) (hR.up hBa ?_ z oq) hl
  exact ⟨_, e, (by show _ = V.2.1.1 (ka % 1000); rw [e9]; exact q2), fun h => (by rw [q3 h]; exact zCell_ex _ _ _ _ _), q4, q5, zCell_set q6 _ _⟩
theorem Z.bast {V : zV} {M : zM} {fr : Nat} {Q : Option Value → zH → Prop} {QX : String → zH → Prop} {mc ms pc : Nat} {L : zLs} {st : List Value} {G : zH} {a ka n t0 : Nat} {f : Nat → Int32} {i x : Int32} (hd : decode M.2.1 pc = .ok (.bastore, 1)) (ht : V.2.2.2.1[t0]? = some (ka, .byte)) (hka : ka < 1000) (hG : G.2 a = some (zI ka n f)) (hin : vp_in i n) (kk : Z V M fr Q QX mc ms (pc + 1) L st (zUp G a (zI ka n (upd f i.toNatClampNeg (vp_nar .byte x))))) : Z V M fr Q QX mc ms pc L (.int x :: .int i :: .ref a :: st) G := by
  intro p e_ R s m args below meth c H locs cells slots CT ST ls C h1 h2 h3 h4 h5 h6 hS hR hl
  have hK : va_K V.2.1 V.2.2.1 (zTy V.2.1 V.2.2.2.1) s := C.2.2.2.2.2.2.2.2.1
  have e9 : ka % 1000 = ka := Nat.mod_eq_of_lt hka
  obtain ⟨hB0, cell, q1, q2, q3, q4, q5, q6⟩ := hR.2 a _ hG
  have hBa : zA V a := hB0 (by show decide (1000 ≤ ka) = false; exact decide_eq_false (by omega))
  have q2 : cell.cls = V.2.1.1 ka := by rw [← e9]; exact q2
  refine W.bast C.1 C.2.1 q1 (zArrOf (hK.2 t0 _ (zTy_at ht)).1 q2 q5) q4 (by rw [zSz_i q6]; exact hin) rfl rfl hd fun H1 e z oq => ?_
  refine kk p e_ R s m args below meth c H1 _ cells slots CT ST ls C h1 h2 h3 h4 h5 h6 (hS.put1 hBa z oq) (hR.up hBa ?_ z oq) hl
  exact ⟨_, e, (by show _ = V.2.1.1 (ka % 1000); rw [e9]; exact q2), fun h => (by rw [q3 h]; exact zCell_ex _ _ _ _ _), q4, q5, zCell_set q6 _ _⟩
theorem Z.zast {V : zV} {M : zM} {fr : Nat} {Q : Option Value → zH → Prop} {QX : String → zH → Prop} {mc ms pc : Nat} {L : zLs} {st : List Value} {G : zH} {a ka n t0 : Nat} {f : Nat → Int32} {i x : Int32} (hd : decode M.2.1 pc = .ok (.bastore, 1)) (ht : V.2.2.2.1[t0]? = some (ka, .boolean)) (hka : ka < 1000) (hG : G.2 a = some (zI ka n f)) (hin : vp_in i n) (kk : Z V M fr Q QX mc ms (pc + 1) L st (zUp G a (zI ka n (upd f i.toNatClampNeg (vp_nar .boolean x))))) : Z V M fr Q QX mc ms pc L (.int x :: .int i :: .ref a :: st) G := by
  intro p e_ R s m args below meth c H locs cells slots CT ST ls C h1 h2 h3 h4 h5 h6 hS hR hl
  have hK : va_K V.2.1 V.2.2.1 (zTy V.2.1 V.2.2.2.1) s := C.2.2.2.2.2.2.2.2.1
  have e9 : ka % 1000 = ka := Nat.mod_eq_of_lt hka
  obtain ⟨hB0, cell, q1, q2, q3, q4, q5, q6⟩ := hR.2 a _ hG
  have hBa : zA V a := hB0 (by show decide (1000 ≤ ka) = false; exact decide_eq_false (by omega))
  have q2 : cell.cls = V.2.1.1 ka := by rw [← e9]; exact q2
  refine W.zast C.1 C.2.1 q1 (zArrOf (hK.2 t0 _ (zTy_at ht)).1 q2 q5) q4 (by rw [zSz_i q6]; exact hin) rfl rfl hd fun H1 e z oq => ?_
  refine kk p e_ R s m args below meth c H1 _ cells slots CT ST ls C h1 h2 h3 h4 h5 h6 (hS.put1 hBa z oq) (hR.up hBa ?_ z oq) hl
  exact ⟨_, e, (by show _ = V.2.1.1 (ka % 1000); rw [e9]; exact q2), fun h => (by rw [q3 h]; exact zCell_ex _ _ _ _ _), q4, q5, zCell_set q6 _ _⟩
theorem Z.aastN {V : zV} {M : zM} {fr : Nat} {Q : Option Value → zH → Prop} {QX : String → zH → Prop} {mc ms pc : Nat} {L : zLs} {st : List Value} {G : zH} {a ka n t0 : Nat} {C1 : String} {f : Nat → Option Nat} {i : Int32} (hd : decode M.2.1 pc = .ok (.aastore, 1)) (ht : V.2.2.2.1[t0]? = some (ka, .object C1)) (hka : ka < 1000) (hG : G.2 a = some (zQ ka n f)) (hin : vp_in i n) (kk : Z V M fr Q QX mc ms (pc + 1) L st (zUp G a (zQ ka n (va_up f i.toNatClampNeg none)))) : Z V M fr Q QX mc ms pc L (.null :: .int i :: .ref a :: st) G := by
  intro p e_ R s m args below meth c H locs cells slots CT ST ls C h1 h2 h3 h4 h5 h6 hS hR hl
  have hK : va_K V.2.1 V.2.2.1 (zTy V.2.1 V.2.2.2.1) s := C.2.2.2.2.2.2.2.2.1
  have e9 : ka % 1000 = ka := Nat.mod_eq_of_lt hka
  obtain ⟨hB0, cell, q1, q2, q3, q4, q5, q6⟩ := hR.2 a _ hG
  have hBa : zA V a := hB0 (by show decide (1000 ≤ ka) = false; exact decide_eq_false (by omega))
  have q2 : cell.cls = V.2.1.1 ka := by rw [← e9]; exact q2
  refine va_WaastN (C := C1) C.1 C.2.1 q1 (zArrOf (hK.2 t0 _ (zTy_at ht)).1 q2 q5) q4 (by rw [zSz_q q6]; exact hin) rfl rfl hd fun H1 e z oq => ?_
  refine kk p e_ R s m args below meth c H1 _ cells slots CT ST ls C h1 h2 h3 h4 h5 h6 (hS.put1 hBa z oq) (hR.up hBa ?_ z oq) hl
  exact ⟨_, e, (by show _ = V.2.1.1 (ka % 1000); rw [e9]; exact q2), fun h => (by rw [q3 h]; exact zCell_exq _ _ _ _ none), q4, q5, zCell_setq q6 _ none⟩
theorem Z.aast {V : zV} {M : zM} {fr : Nat} {Q : Option Value → zH → Prop} {QX : String → zH → Prop} {mc ms pc : Nat} {L : zLs} {st : List Value} {G : zH} {a b c0 ka n t0 ci : Nat} {r : vw_C} {vs : List Value} {f : Nat → Option Nat} {i : Int32} (hd : decode M.2.1 pc = .ok (.aastore, 1)) (ht : V.2.2.2.1[t0]? = some (ka, .object r.1)) (hc : V.2.2.1[ci]? = some r) (hka : ka < 1000) (hb : G.2 b = some (.inr (c0, vs))) (hcm : c0 % 1000 = ci) (hG : G.2 a = some (zQ ka n f)) (hin : vp_in i n) (kk : Z V M fr Q QX mc ms (pc + 1) L st (zUp G a (zQ ka n (va_up f i.toNatClampNeg (some b))))) : Z V M fr Q QX mc ms pc L (.ref b :: .int i :: .ref a :: st) G := by
  intro p e_ R s m args below meth c H locs cells slots CT ST ls C h1 h2 h3 h4 h5 h6 hS hR hl
  have hK : va_K V.2.1 V.2.2.1 (zTy V.2.1 V.2.2.2.1) s := C.2.2.2.2.2.2.2.2.1
  have e9 : ka % 1000 = ka := Nat.mod_eq_of_lt hka
  obtain ⟨hB0, cell, q1, q2, q3, q4, q5, q6⟩ := hR.2 a _ hG
  have hBa : zA V a := hB0 (by show decide (1000 ≤ ka) = false; exact decide_eq_false (by omega))
  have q2 : cell.cls = V.2.1.1 ka := by rw [← e9]; exact q2
  have hlt : i.toNatClampNeg < n := Nat.not_le.mp fun q => hin (Or.inr q)
  have h0 : ¬ i < 0 := fun q => hin (Or.inl q)
  obtain ⟨kA, comp, k1, k2, k3, -⟩ := (hK.2 t0 _ (zTy_at ht)).2
  obtain ⟨kE, hkE, -⟩ := Vm.findClass_spec k3
  subst hcm
  obtain ⟨-, r', cellV, hr', g1, g2, g3, g4, g5, -⟩ := hR.2 b _ hb
  have hcls := (hK.1 _ r hc).2
  have hcomp : comp = V.2.1.1 (c0 % 1000) := Option.some.inj (k3.symm.trans hcls.1)
  subst hcomp
  refine W.aast C.1 C.2.1 q1 (fun q h => by rw [h] at q5; cases q5) q4 (by rw [q2]; exact k1) k2 rfl hkE ⟨h0, by rw [zSz_q q6]; exact hlt⟩ g1 (fun q h => by rw [h] at g5; cases g5) (by rw [g2]; exact hkE) (by rw [g2]; exact va_assign hcls) rfl rfl hd fun H1 e z oq => ?_
  refine kk p e_ R s m args below meth c H1 _ cells slots CT ST ls C h1 h2 h3 h4 h5 h6 (hS.put1 hBa z oq) (hR.up hBa ?_ z oq) hl
  exact ⟨_, e, (by show _ = V.2.1.1 (ka % 1000); rw [e9]; exact q2), fun h => (by rw [q3 h]; exact zCell_exq _ _ _ _ (some b)), q4, q5, zCell_setq q6 _ (some b)⟩
theorem Z.aastC {V : zV} {M : zM} {fr : Nat} {Q : Option Value → zH → Prop} {QX : String → zH → Prop} {mc ms pc : Nat} {L : zLs} {st : List Value} {G : zH} {a b c0 ka n t0 ci : Nat} {E : String} {r : vw_C} {vs : List Value} {f : Nat → Option Nat} {i : Int32} (hd : decode M.2.1 pc = .ok (.aastore, 1)) (ht : V.2.2.2.1[t0]? = some (ka, .object E)) (hc : V.2.2.1[ci]? = some r) (hca : Cond.castable r.1 E ∈ zT) (hka : ka < 1000) (hb : G.2 b = some (.inr (c0, vs))) (hcm : c0 % 1000 = ci) (hG : G.2 a = some (zQ ka n f)) (hin : vp_in i n) (kk : Z V M fr Q QX mc ms (pc + 1) L st (zUp G a (zQ ka n (va_up f i.toNatClampNeg (some b))))) : Z V M fr Q QX mc ms pc L (.ref b :: .int i :: .ref a :: st) G := by
  intro p e_ R s m args below meth c H locs cells slots CT ST ls C h1 h2 h3 h4 h5 h6 hS hR hl
  have hK : va_K V.2.1 V.2.2.1 (zTy V.2.1 V.2.2.2.1) s := C.2.2.2.2.2.2.2.2.1
  have e9 : ka % 1000 = ka := Nat.mod_eq_of_lt hka
  obtain ⟨hB0, cell, q1, q2, q3, q4, q5, q6⟩ := hR.2 a _ hG
  have hBa : zA V a := hB0 (by show decide (1000 ≤ ka) = false; exact decide_eq_false (by omega))
  have q2 : cell.cls = V.2.1.1 ka := by rw [← e9]; exact q2
  have hlt : i.toNatClampNeg < n := Nat.not_le.mp fun q => hin (Or.inr q)
  have h0 : ¬ i < 0 := fun q => hin (Or.inl q)
  obtain ⟨kA, comp, k1, k2, k3, -⟩ := (hK.2 t0 _ (zTy_at ht)).2
  obtain ⟨kE, hkE, -⟩ := Vm.findClass_spec k3
  subst hcm
  obtain ⟨-, r', cellV, hr', g1, g2, g3, g4, g5, -⟩ := hR.2 b _ hb
  have hcls := (hK.1 _ r hc).2
  obtain ⟨kC, hkC, -⟩ := hcls.2
  obtain ⟨c9, t1, f1, f2, f3⟩ := Cond.castable_spec (C.2.2.2.2.2.2.2.1 _ hca)
  cases hcls.1.symm.trans f1
  cases k3.symm.trans f2
  refine W.aast C.1 C.2.1 q1 (fun q h => by rw [h] at q5; cases q5) q4 (by rw [q2]; exact k1) k2 rfl hkE ⟨h0, by rw [zSz_q q6]; exact hlt⟩ g1 (fun q h => by rw [h] at g5; cases g5) (by rw [g2]; exact hkC) (by rw [g2]; exact f3) rfl rfl hd fun H1 e z oq => ?_
  refine kk p e_ R s m args below meth c H1 _ cells slots CT ST ls C h1 h2 h3 h4 h5 h6 (hS.put1 hBa z oq) (hR.up hBa ?_ z oq) hl
  exact ⟨_, e, (by show _ = V.2.1.1 (ka % 1000); rw [e9]; exact q2), fun h => (by rw [q3 h]; exact zCell_exq _ _ _ _ (some b)), q4, q5, zCell_setq q6 _ (some b)⟩
theorem Z.aastA {V : zV} {M : zM} {fr : Nat} {Q : Option Value → zH → Prop} {QX : String → zH → Prop} {mc ms pc : Nat} {L : zLs} {st : List Value} {G : zH} {a b c0 kb ka n t0 t1 : Nat} {E nm : String} {ty1 : FieldType} {x : vp_A} {f : Nat → Option Nat} {i : Int32} (hd : decode M.2.1 pc = .ok (.aastore, 1)) (ht : V.2.2.2.1[t0]? = some (ka, .object E)) (ht1 : V.2.2.2.1[t1]? = some (kb, ty1)) (hnm : "[" ++ ty1.toString = nm) (hca : Cond.castable nm E ∈ zT) (hka : ka < 1000) (hb : G.2 b = some (.inl (c0, x))) (hcm : c0 % 1000 = kb) (hG : G.2 a = some (zQ ka n f)) (hin : vp_in i n) (kk : Z V M fr Q QX mc ms (pc + 1) L st (zUp G a (zQ ka n (va_up f i.toNatClampNeg (some b))))) : Z V M fr Q QX mc ms pc L (.ref b :: .int i :: .ref a :: st) G := by
  intro p e_ R s m args below meth c H locs cells slots CT ST ls C h1 h2 h3 h4 h5 h6 hS hR hl
  have hK : va_K V.2.1 V.2.2.1 (zTy V.2.1 V.2.2.2.1) s := C.2.2.2.2.2.2.2.2.1
  have e9 : ka % 1000 = ka := Nat.mod_eq_of_lt hka
  obtain ⟨hB0, cell, q1, q2, q3, q4, q5, q6⟩ := hR.2 a _ hG
  have hBa : zA V a := hB0 (by show decide (1000 ≤ ka) = false; exact decide_eq_false (by omega))
  have q2 : cell.cls = V.2.1.1 ka := by rw [← e9]; exact q2
  have hlt : i.toNatClampNeg < n := Nat.not_le.mp fun q => hin (Or.inr q)
  have h0 : ¬ i < 0 := fun q => hin (Or.inl q)
  obtain ⟨kA, comp, k1, k2, k3, -⟩ := (hK.2 t0 _ (zTy_at ht)).2
  obtain ⟨kE, hkE, -⟩ := Vm.findClass_spec k3
  subst hcm
  obtain ⟨-, cellV, g1, g2, g3, g4, g5, -⟩ := hR.2 b _ hb
  have hfA := zArrName hK ht1
  rw [hnm] at hfA
  obtain ⟨kC, hkC, -⟩ := Vm.findClass_spec hfA
  obtain ⟨c9, t9, f1, f2, f3⟩ := Cond.castable_spec (C.2.2.2.2.2.2.2.1 _ hca)
  cases hfA.symm.trans f1
  cases k3.symm.trans f2
  refine W.aast C.1 C.2.1 q1 (fun q h => by rw [h] at q5; cases q5) q4 (by rw [q2]; exact k1) k2 rfl hkE ⟨h0, by rw [zSz_q q6]; exact hlt⟩ g1 (fun q h => by rw [h] at g5; cases g5) (by rw [g2]; exact hkC) (by rw [g2]; exact f3) rfl rfl hd fun H1 e z oq => ?_
  refine kk p e_ R s m args below meth c H1 _ cells slots CT ST ls C h1 h2 h3 h4 h5 h6 (hS.put1 hBa z oq) (hR.up hBa ?_ z oq) hl
  exact ⟨_, e, (by show _ = V.2.1.1 (ka % 1000); rw [e9]; exact q2), fun h => (by rw [q3 h]; exact zCell_exq _ _ _ _ (some b)), q4, q5, zCell_setq q6 _ (some b)⟩
theorem Z.castO {V : zV} {M : zM} {fr : Nat} {Q : Option Value → zH → Prop} {QX : String → zH → Prop} {mc ms pc : Nat} {L : zLs} {st : List Value} {G : zH} {a c0 ci idx : Nat} {r : vw_C} {fs : List Value} (hd : decode M.2.1 pc = .ok (.checkcast idx, 3)) (hrc : V.2.2.1[ci]? = some r) (hlk : Cond.classLink M.1.cls idx r.1 ∈ zT) (hG : G.2 a = some (.inr (c0, fs))) (hcm : c0 % 1000 = ci) (k : Z V M fr Q QX mc ms (pc + 3) L (.ref a :: st) G) : Z V M fr Q QX mc ms pc L (.ref a :: st) G := by
  intro p e R s m args below meth c H locs cells slots CT ST ls C h1 h2 h3 h4 h5 h6 hS hR hl
  have hK : va_K V.2.1 V.2.2.1 (zTy V.2.1 V.2.2.2.1) s := C.2.2.2.2.2.2.2.2.1
  subst hcm
  obtain ⟨-, r', cell, hr', g1, g2, g3, g4, g5, -⟩ := hR.2 a _ hG
  have hcls := (hK.1 _ r hrc).2
  exact va_castS C.1 C.2.1 C.2.2.2.2.2.1 (C.2.2.2.2.2.2.2.1 _ hlk) hcls ⟨cell, g1, g5, by rw [g2]; exact hcls.1⟩ hd (k p e R s m args below meth c H locs cells slots CT ST ls C h1 h2 h3 h4 h5 h6 hS hR hl)
theorem Z.castA {V : zV} {M : zM} {fr : Nat} {Q : Option Value → zH → Prop} {QX : String → zH → Prop} {mc ms pc : Nat} {L : zLs} {st : List Value} {G : zH} {a c0 ka t0 idx : Nat} {nm : String} {ty : FieldType} {x : vp_A} (hd : decode M.2.1 pc = .ok (.checkcast idx, 3)) (ht : V.2.2.2.1[t0]? = some (ka, ty)) (hnm : "[" ++ ty.toString = nm) (hlk : Cond.classLink M.1.cls idx nm ∈ zT) (hG : G.2 a = some (.inl (c0, x))) (hcm : c0 % 1000 = ka) (k : Z V M fr Q QX mc ms (pc + 3) L (.ref a :: st) G) : Z V M fr Q QX mc ms pc L (.ref a :: st) G := by
  intro p e R s m args below meth c H locs cells slots CT ST ls C h1 h2 h3 h4 h5 h6 hS hR hl
  have hK : va_K V.2.1 V.2.2.1 (zTy V.2.1 V.2.2.2.1) s := C.2.2.2.2.2.2.2.2.1
  subst hcm
  obtain ⟨-, cell, g1, g2, g3, g4, g5, -⟩ := hR.2 a _ hG
  have hfA := zArrName hK ht
  rw [hnm] at hfA
  intro T hT X
  obtain ⟨vm', X', stp⟩ := X.checkcastYes C.1 C.2.2.2.2.2.1 (C.2.2.2.2.2.2.2.1 _ hlk) (by rw [hT]; exact g1) g5 hfA (by rw [g2]; exact va_asg _ _) (g := F0 m pc ls (.ref a :: st)) rfl rfl (by rw [C.2.1]; exact hd)
  obtain ⟨t, a1, b1⟩ := k p e R s m args below meth c H locs cells slots CT ST ls C h1 h2 h3 h4 h5 h6 hS hR hl (T.setVm vm') hT X'
  exact ⟨t, stp t a1, b1⟩
def zNc (cl : List vw_C) (own : String) (idx ci N : Nat) : Prop := ∃ (C : String) (T : u_T) (t0 : Nat → FieldType), cl[ci]? = some (C, T, N) ∧ (∀ w ∈ u_ws C T N, w ∈ zT) ∧ (∀ j, j < N → parseFieldDescriptor (T j).2.2.1 = some (t0 j)) ∧
  Cond.classLink own idx C ∈ zT ∧ Cond.instantiable C N ∈ zT ∧ Cond.initialized C ∈ zT
def zBlank (cl : List vw_C) (ci : Nat) (fs : List Value) : Prop := ∀ (C : String) (T : u_T) (N : Nat), cl[ci]? = some (C, T, N) → ∀ j, j < N → (parseFieldDescriptor (T j).2.2.1).map defaultValue = some (vp_V fs j)
theorem Z.new {V : zV} {M : zM} {fr : Nat} {Q : Option Value → zH → Prop} {QX : String → zH → Prop} {mc ms pc : Nat} {L : zLs} {st : List Value} {G : zH} {ci N idx : Nat} {fs : List Value} (hn : zNc V.2.2.1 M.1.cls idx ci N) (hci : ci < 1000) (hfs : zBlank V.2.2.1 ci fs) (hd : decode M.2.1 pc = .ok (.new idx, 3)) (kk : Z V M fr Q QX mc ms (pc + 3) L (.ref G.1 :: st) (zNew G (.inr (ci, fs)))) : Z V M fr Q QX (mc + 1) (ms + N) pc L st G := by
  intro p e R s m args below meth c H locs cells slots CT ST ls C h1 h2 h3 h4 h5 h6 hS hR hl
  obtain ⟨C0, T, t0, hc, hin, ht0, w1, w2, w3⟩ := hn
  have hts := C.2.2.2.2.2.2.2.1
  have hK : va_K V.2.1 V.2.2.1 (zTy V.2.1 V.2.2.2.1) s := C.2.2.2.2.2.2.2.2.1
  have hKn := hK.1 ci _ hc
  have hsz := hR.1
  have hBs := Nat.le_trans C.2.2.2.2.2.2.2.2.2.2.1 hS.1
  refine W.newcK C.1 C.2.1 C.2.2.2.2.2.1 (hts _ w1) (hts _ w2) (hts _ w3) rfl hd (by omega) (by omega) hKn.2.1 hsz fun H1 kC hkC e1 z1 o1 => ?_
  have o1 : ∀ q, q < H.size → H1[q]? = H[q]? := fun q hq => o1 q (by rw [← hsz]; exact hq)
  refine kk p e R s m args below meth c H1 locs (cells + 1) (slots + N) CT ST ls C h1 h2 h3 h4 (by omega) (by omega) (hS.new1 (by omega) o1) (hR.new hBs ?_ (by omega) o1) hl
  obtain ⟨cell9, b1, b2, b3, b4⟩ := u_born (H := H1) (o := H.size) t0 hts hin hKn hkC (by rw [hsz]; exact e1) ht0
  have e9 : ci % 1000 = ci := Nat.mod_eq_of_lt hci
  refine ⟨_, cell9, (by rw [e9]; exact hc), b1, (by rw [e9]; exact b2), fun _ => b3, (by rw [b3]; intro h; cases h), (by rw [b3]; rfl), fun j v hj hv => ?_⟩
  dsimp only
  rw [e9, b4 j hj]
  have h9 := hfs C0 T N hc j hj
  rw [ht0 j hj] at h9
  have h8 : defaultValue (t0 j) = vp_V fs j := Option.some.inj h9
  show some (defaultValue (t0 j)) = some v
  rw [h8]
  have hv9 : fs[j]? = some v := hv
  simp [vp_V, hv9]
theorem Z.newa {V : zV} {M : zM} {fr : Nat} {Q : Option Value → zH → Prop} {QX : String → zH → Prop} {mc ms pc : Nat} {L : zLs} {st : List Value} {G : zH} {at_ : ArrayType} {ka t0 N : Nat} {n : Int32} (hw : Cond.arrayClass (newarray.typeOf at_) ∈ zT) (ht : V.2.2.2.1[t0]? = some (ka, newarray.typeOf at_)) (hka : ka < 1000) (hdef : defaultValue (newarray.typeOf at_) = .int 0) (hb : componentBytes (newarray.typeOf at_) ≤ 8) (hd : decode M.2.1 pc = .ok (.newarray at_, 2)) (hn : ¬ n < 0) (hN : n.toNatClampNeg = N) (hlim : N ≤ 60000000) (kk : Z V M fr Q QX mc ms (pc + 2) L (.ref G.1 :: st) (zNew G (zI ka N (fun _ => 0)))) : Z V M fr Q QX (mc + 1) (ms + N) pc L (.int n :: st) G := by
  intro p e R s m args below meth c H locs cells slots CT ST ls C h1 h2 h3 h4 h5 h6 hS hR hl
  have hts := C.2.2.2.2.2.2.2.1
  have hK : va_K V.2.1 V.2.2.1 (zTy V.2.1 V.2.2.2.1) s := C.2.2.2.2.2.2.2.2.1
  have hsz := hR.1
  have hBs := Nat.le_trans C.2.2.2.2.2.2.2.2.2.2.1 hS.1
  have hbytes : N * componentBytes (newarray.typeOf at_) ≤ 536870912 := Nat.le_trans (Nat.mul_le_mul hlim hb) (by decide)
  subst hN
  refine va_newaK C.1 C.2.1 (hts _ hw) rfl hd rfl hn rfl hbytes (by omega) (by omega) hsz fun H1 cA e1 z1 o1 hAr hNm => ?_
  have o1 : ∀ q, q < H.size → H1[q]? = H[q]? := fun q hq => o1 q (by rw [← hsz]; exact hq)
  have hcA : cA = V.2.1.1 ka := Option.some.inj (hNm.symm.trans (zArrName hK ht))
  subst hcA
  refine kk p e R s m args below meth c H1 locs (cells + 1) (slots + _) CT ST ls C h1 h2 h3 h4 (by omega) (by omega) (hS.new1 (by omega) o1) (hR.new hBs ?_ (by omega) o1) hl
  rw [hdef] at e1
  exact ⟨arrV (V.2.1.1 ka) n.toNatClampNeg (fun _ => .int 0), (by rw [hsz]; exact e1), (by show _ = V.2.1.1 (ka % 1000); rw [Nat.mod_eq_of_lt hka]; rfl), fun _ => (by rw [show (ka, _).1 % 1000 = ka from Nat.mod_eq_of_lt hka]; rfl), (fun h => by cases h), rfl, rfl⟩
theorem Z.newq {V : zV} {M : zM} {fr : Nat} {Q : Option Value → zH → Prop} {QX : String → zH → Prop} {mc ms pc : Nat} {L : zLs} {st : List Value} {G : zH} {ka t0 N idx : Nat} {C1 : String} {n : Int32} (hw : Cond.arrayOver (.object C1) ∈ zT) (hlk : Cond.classLink M.1.cls idx C1 ∈ zT) (ht : V.2.2.2.1[t0]? = some (ka, .object C1)) (hka : ka < 1000) (hd : decode M.2.1 pc = .ok (.anewarray idx, 3)) (hn : ¬ n < 0) (hN : n.toNatClampNeg = N) (hlim : N ≤ 60000000) (kk : Z V M fr Q QX mc ms (pc + 3) L (.ref G.1 :: st) (zNew G (zQ ka N (fun _ => none)))) : Z V M fr Q QX (mc + 1) (ms + N) pc L (.int n :: st) G := by
  intro p e R s m args below meth c H locs cells slots CT ST ls C h1 h2 h3 h4 h5 h6 hS hR hl
  have hts := C.2.2.2.2.2.2.2.1
  have hK : va_K V.2.1 V.2.2.1 (zTy V.2.1 V.2.2.2.1) s := C.2.2.2.2.2.2.2.2.1
  have hsz := hR.1
  have hBs := Nat.le_trans C.2.2.2.2.2.2.2.2.2.2.1 hS.1
  subst hN
  refine W.anew C.1 C.2.1 C.2.2.2.2.2.1 (hts _ hlk) (hts _ hw) rfl hd rfl hn (by omega) (by omega) (by omega) fun cA kA comp f1 f2 f3 f4 => ?_
  have hcA : cA = V.2.1.1 ka := Option.some.inj (f1.symm.trans (zArrName hK ht))
  subst hcA
  generalize hH1 : H.push ({ cls := V.2.1.1 ka, slots := Array.replicate n.toNatClampNeg .null, vm := .none } : Cell) = H1
  have z1 : H1.size = H.size + 1 := by rw [← hH1, Array.size_push]
  have e1 : H1[H.size]? = some (arrV (V.2.1.1 ka) n.toNatClampNeg (fun _ => .null)) := by rw [← hH1, Array.getElem?_push_size, ← arrV_new]
  have o1 : ∀ q : Nat, q < H.size → H1[q]? = H[q]? := fun q hq => by rw [← hH1, Array.getElem?_push, if_neg (Nat.ne_of_lt hq)]
  have k9 := kk p e R s m args below meth c H1 locs (cells + 1) (slots + n.toNatClampNeg) CT ST ls C h1 h2 h3 h4 (by omega) (by omega) (hS.new1 (by omega) o1) (hR.new hBs ⟨arrV (V.2.1.1 ka) n.toNatClampNeg (fun _ => .null), e1, (by show _ = V.2.1.1 (ka % 1000); rw [Nat.mod_eq_of_lt hka]; rfl), fun _ => (by rw [show (ka, _).1 % 1000 = ka from Nat.mod_eq_of_lt hka]; rfl), (fun h => by cases h), rfl, rfl⟩ (by omega) o1) hl
  rw [← hsz] at k9
  exact k9
theorem Z.vret {V : zV} {M : zM} {fr : Nat} {Q : Option Value → zH → Prop} {QX : String → zH → Prop} {mc ms pc : Nat} {L : zLs} {st : List Value} {G : zH}  (hr : M.2.2.2 = none) (hd : decode M.2.1 pc = .ok (.return_, 1)) (hq : Q none G) : Z V M fr Q QX mc ms pc L [] G := by
  intro p e R s m args below meth c H locs cells slots CT ST ls C h1 h2 h3 h4 h5 h6 hS hR hl
  refine W.widen (k := CT) (n := ST) (by omega) (by omega) (vx_ret (W.vret C.1 C.2.1 (by rw [C.2.2.2.1]; exact hr) (fun t hT hW => ⟨none, G, rfl, hq, by rw [hT]; exact hR, hS.toF hT⟩) hS.2.2 hd C.2.2.2.2.1))
theorem Z.iret {V : zV} {M : zM} {fr : Nat} {Q : Option Value → zH → Prop} {QX : String → zH → Prop} {mc ms pc : Nat} {L : zLs} {st : List Value} {G : zH} {ty : FieldType} {v : Int32} (hr : M.2.2.2 = some ty) (hn : narrow ty (.int v) = .int v) (hd : decode M.2.1 pc = .ok (.ireturn, 1)) (hq : Q (some (.int v)) G) : Z V M fr Q QX mc ms pc L [.int v] G := by
  intro p e R s m args below meth c H locs cells slots CT ST ls C h1 h2 h3 h4 h5 h6 hS hR hl
  refine W.widen (k := CT) (n := ST) (by omega) (by omega) (vx_ret (W.zret C.1 C.2.1 (by rw [C.2.2.2.1]; exact hr) hn (fun t hT hW => ⟨some (.int v), G, rfl, hq, by rw [hT]; exact hR, hS.toF hT⟩) hS.2.2 hd C.2.2.2.2.1))
theorem Z.lret {V : zV} {M : zM} {fr : Nat} {Q : Option Value → zH → Prop} {QX : String → zH → Prop} {mc ms pc : Nat} {L : zLs} {st : List Value} {G : zH} {v : Int64} (hr : M.2.2.2 = some .long) (hd : decode M.2.1 pc = .ok (.lreturn, 1)) (hq : Q (some (.long v)) G) : Z V M fr Q QX mc ms pc L [.long v] G := by
  intro p e R s m args below meth c H locs cells slots CT ST ls C h1 h2 h3 h4 h5 h6 hS hR hl
  refine W.widen (k := CT) (n := ST) (by omega) (by omega) (vx_ret (W.lret C.1 C.2.1 (by rw [C.2.2.2.1]; exact hr) (fun t hT hW => ⟨some (.long v), G, rfl, hq, by rw [hT]; exact hR, hS.toF hT⟩) hS.2.2 hd C.2.2.2.2.1))
theorem Z.aret {V : zV} {M : zM} {fr : Nat} {Q : Option Value → zH → Prop} {QX : String → zH → Prop} {mc ms pc : Nat} {L : zLs} {st : List Value} {G : zH} {rt : FieldType} {v : Value} (hr : M.2.2.2 = some rt) (hrt : (∃ n, rt = .object n) ∨ ∃ t, rt = .array t) (hv : v = .null ∨ ∃ a, v = .ref a) (hd : decode M.2.1 pc = .ok (.areturn, 1)) (hq : Q (some v) G) : Z V M fr Q QX mc ms pc L [v] G := by
  intro p e R s m args below meth c H locs cells slots CT ST ls C h1 h2 h3 h4 h5 h6 hS hR hl
  refine W.widen (k := CT) (n := ST) (by omega) (by omega) (vx_ret (W.aret C.1 C.2.1 (by rw [C.2.2.2.1]; exact hr) hrt hv (fun t hT hW => ⟨some v, G, rfl, hq, by rw [hT]; exact hR, hS.toF hT⟩) hS.2.2 hd C.2.2.2.2.1))
end
section
/-- what every call asks of the method called -/
def zCb (y : zM) (n : Nat) : Prop := Cond.code y.1 y.2.1 y.2.2.1 y.2.2.2 ∈ zT ∧ Cond.initialized y.1.cls ∈ zT ∧ (y.1.cls ≠ "java/lang/invoke/MethodHandle" ∧ y.1.cls ≠ "java/lang/invoke/VarHandle") ∧ (parseMethodDescriptor y.1.desc).map (fun d => d.parameters.length) = some n ∧ y.2.2.1 ≤ 41
theorem zW_stay {s : State} {args : Array Value} {y : zM} {n : Nat} (hts : ∀ w ∈ zT, w.before args s = true) (h : zCb y n) : ∀ w ∈ zW y, ∀ (a' : Array Value) (U : State), s.WarmedH U.vm → w.before a' U = true := by
  intro w hw a' U hW
  rcases List.mem_cons.mp hw with h9 | h9
  · rw [h9]; exact zT_stay hW hts _ h.1
  · exact zT_stay hW hts _ h9
theorem zCb_sig {y : zM} {n : Nat} (h : zCb y n) : ∀ sig, parseMethodDescriptor y.1.desc = some sig → n = sig.parameters.length := by
  intro sig h9
  have h2 := h.2.2.2.1
  rw [h9] at h2
  exact (Option.some.inj h2).symm
theorem zPc_at {V : zV} {M : zM} {p : Program} {R : Room} {s : State} {m : MethodId} {args : Array Value} {meth : Method} {c : Code} {H : Heap} {locs : List Loc} {G : zH} {As : List Value} (hV : zOk V) (C : zCx V M p R s m args meth c) (hS : va_S (zA V) s.heap H locs) (hR : zRl V G H) :
    FrameBlind (zPc V As G) ∧ ∀ U : State, U.heap = H → s.WarmedH U.vm → zPc V As G As.toArray U := by
  refine ⟨fun a U g mk h => ⟨h.1, h.2.1, h.2.2.1, hV.2.1 U _ _ rfl h.2.2.2.1, h.2.2.2.2⟩, fun U hU hW => ⟨rfl, by rw [hU]; exact hR, zKn.moved hW.alike C.2.2.2.2.2.2.2.2.1, ?_, ?_⟩⟩
  · rw [hU]
    exact hV.2.2 s U s.heap H hW (fun q h1 h2 => hS.2.1 q h1 h2) hS.1 C.2.2.2.2.2.2.2.2.2.1
  · rw [hU]
    exact Nat.le_trans C.2.2.2.2.2.2.2.2.2.2.1 hS.1
theorem zAfter {V : zV} {M : zM} {fr : Nat} {Q Qy : Option Value → zH → Prop} {QX Qyx : String → zH → Prop} {mc ms yc ys pc : Nat} {L : zLs} {st st0 : List Value} {p : Program} {e : Env} {R : Room} {s : State} {m : MethodId} {args : Array Value} {below : List Frame} {meth : Method} {c : Code} {H : Heap} {locs : List Loc} {cells slots CT ST : Nat} {ls : Array Slot} {a : Array Value}
    (hr : vx_Run p V.1 e R s m args below meth c H locs cells slots yc ys (F0 m pc ls st0) st (zQc V Qy a) (zXC V Qyx) (zA V)) (C : zCx V M p R s m args meth c) (h1 : fr ≤ R.frames) (h2 : 60 * fr ≤ R.locals) (h3 : CT ≤ R.cells) (h4 : ST ≤ R.slots) (h5 : cells + yc + mc ≤ CT) (h6 : slots + ys + ms ≤ ST) (hS : va_S (zA V) s.heap H locs) (hl : zL ls L)
    (hx : ∀ (E : String) (G' : zH), Qyx E G' → QX E G') (kk : ∀ (v : Option Value) (G' : zH), Qy v G' → Z V M fr Q QX mc ms (pc + 3) L (v.toList ++ st) G') :
    W p V.1 e R s m args below meth c H locs cells slots (vx_MQ below (zQc V Q) (zXC V QX) args s CT ST (zA V)) (F0 m pc ls st0) := by
  intro T hT X
  rcases hr T hT X with ⟨v, st₀, t, T', L9, h0, X', hL9, e1, e2, ⟨v', G', hv, hq, hRl, hF⟩, stp⟩ | ⟨q, st₀, t, T', L9, E, ce, h0, X', hL9, e1, e2, ⟨G', hq, hRl, hF⟩, hce, hcv, hcl, stp⟩
  · cases hv
    obtain ⟨k1, k2, k3⟩ := vx_keep h0 e1 hS (fun _ _ h => h) (fun _ h => h) hL9 hF
    obtain ⟨t2, a1, b1⟩ := kk v G' hq p e R s m args below meth c T'.heap (locs ++ L9) (cells + yc) (slots + ys) CT ST ls C h1 h2 h3 h4 h5 h6 k3 (by rw [e1]; exact hRl) hl T' rfl X'
    exact ⟨t2, stp t2 a1, b1⟩
  · obtain ⟨k1, k2, k3⟩ := vx_keep h0 e1 hS (fun _ _ h => h) (fun _ h => h) hL9 hF
    have hce' : T'.heap[q]? = some ce := by rw [e1]; exact hce
    have kx : vx_W p V.1 e R s m args below meth c T'.heap (locs ++ L9) (cells + yc) (slots + ys) (vx_MQ below (zQc V Q) (zXC V QX) args s CT ST (zA V)) (F0 m pc ls st) q := by
      refine vx_out (E := E) (ce := ce) (fun x h => (C.2.2.2.2.2.2.2.2.2.2.2 x h).elim) C.2.2.2.2.1 hce' hcv hcl ?_ k3.2.2 (by omega) (by omega)
      intro t9 ht9 _
      exact ⟨G', hx E G' hq, by rw [ht9, e1]; exact hRl, k3.toF ht9⟩
    obtain ⟨t2, a1, b1⟩ := kx T' rfl X'
    exact ⟨t2, stp.trans a1, b1⟩
theorem Z.callV {V : zV} {M : zM} {fr : Nat} {Q : Option Value → zH → Prop} {QX : String → zH → Prop} {mc ms pc : Nat} {L : zLs} {st : List Value} {G : zH} {y : zM} {n fr9 yc ys idx : Nat} {As : List Value} {Qy : Option Value → zH → Prop} {Qyx : String → zH → Prop} {b c0 ci : Nat} {r : vw_C} {fs : List Value} (hV : zOk V) (hy : zMet V y fr9 yc ys (.ref b :: As) G Qy Qyx) (hc : zCb y n) (hlk : Cond.methodLink M.1.cls idx y.1 ∈ zT) (hin : Cond.instanceMethod y.1 ∈ zT) (hrc : V.2.2.1[ci]? = some r) (hsl : Cond.selects r.1 y.1 y.1 ∈ zT) (hG : G.2 b = some (.inr (c0, fs))) (hcm : c0 % 1000 = ci) (hd : decode M.2.1 pc = .ok (.invokevirtual idx, 3)) (hn : As.length = n) (hLl : L.length = M.2.2.1) (hcat : (st.map fun v => v.category).sum ≤ 8) (hf9 : fr9 + 1 ≤ fr) (hx : ∀ (E : String) (G' : zH), Qyx E G' → QX E G') (kk : ∀ (v : Option Value) (G' : zH), Qy v G' → Z V M fr Q QX mc ms (pc + 3) L (v.toList ++ st) G') : Z V M fr Q QX (mc + yc) (ms + ys) pc L (As.reverse ++ .ref b :: st) G := by
  intro p e R s m args below meth c H locs cells slots CT ST ls C h1 h2 h3 h4 h5 h6 hS hR hl
  have hts := C.2.2.2.2.2.2.2.1
  have hK : va_K V.2.1 V.2.2.1 (zTy V.2.1 V.2.2.2.1) s := C.2.2.2.2.2.2.2.2.1
  have hP := zPc_at (As := (.ref b :: As)) hV C hS hR
  have hml := hc.2.2.2.2
  have hsz : ls.size = M.2.2.1 := hl.1.trans hLl
  have hcb : CallB R s args M.1.cls idx y.1 y.2.1 y.2.2.1 y.2.2.2 (zW y) (zRm fr9 yc ys) yc ys n := ⟨rfl, rfl, (by show fr9 + 1 ≤ R.frames; omega), (by show 8 + (y.2.2.1 + 11) + 60 * fr9 ≤ R.locals; omega), zW_stay hts hc, List.mem_cons_self, hts _ hc.1, hts _ hc.2.1, hc.2.2.1, zCb_sig hc, hts _ hlk⟩
  subst hcm
  obtain ⟨-, r9, cellB, g0, g1, g2, g3, g4, g5, -⟩ := hR.2 b _ hG
  refine zAfter (a := ((.ref b :: As)).toArray) (yc := yc) (ys := ys) (st := st) ?_ C h1 h2 h3 h4 (by omega) (by omega) hS hl hx kk
  exact vx_runV (C := r.1) (n := n) ⟨C.1, C.2.1, C.2.2.1, C.2.2.2.2.2.1, hts⟩ hy ⟨hcb, hts _ hin, hts _ hsl⟩ ⟨hP.1, ⟨cellB, g1, g5, by rw [g2]; exact (hK.1 _ r hrc).2.1⟩, hP.2⟩ rfl hn hsz rfl (lv_room hcat) hd ⟨by omega, by omega⟩
theorem Z.callS {V : zV} {M : zM} {fr : Nat} {Q : Option Value → zH → Prop} {QX : String → zH → Prop} {mc ms pc : Nat} {L : zLs} {st : List Value} {G : zH} {y : zM} {n fr9 yc ys idx : Nat} {As : List Value} {Qy : Option Value → zH → Prop} {Qyx : String → zH → Prop}  (hV : zOk V) (hy : zMet V y fr9 yc ys As G Qy Qyx) (hc : zCb y n) (hlk : Cond.methodLink M.1.cls idx y.1 ∈ zT) (hst : Cond.static y.1 ∈ zT) (hd : decode M.2.1 pc = .ok (.invokestatic idx, 3)) (hn : As.length = n) (hLl : L.length = M.2.2.1) (hcat : (st.map fun v => v.category).sum ≤ 8) (hf9 : fr9 + 1 ≤ fr) (hx : ∀ (E : String) (G' : zH), Qyx E G' → QX E G') (kk : ∀ (v : Option Value) (G' : zH), Qy v G' → Z V M fr Q QX mc ms (pc + 3) L (v.toList ++ st) G') : Z V M fr Q QX (mc + yc) (ms + ys) pc L (As.reverse ++ st) G := by
  intro p e R s m args below meth c H locs cells slots CT ST ls C h1 h2 h3 h4 h5 h6 hS hR hl
  have hts := C.2.2.2.2.2.2.2.1
  have hK : va_K V.2.1 V.2.2.1 (zTy V.2.1 V.2.2.2.1) s := C.2.2.2.2.2.2.2.2.1
  have hP := zPc_at (As := As) hV C hS hR
  have hml := hc.2.2.2.2
  have hsz : ls.size = M.2.2.1 := hl.1.trans hLl
  have hcb : CallB R s args M.1.cls idx y.1 y.2.1 y.2.2.1 y.2.2.2 (zW y) (zRm fr9 yc ys) yc ys n := ⟨rfl, rfl, (by show fr9 + 1 ≤ R.frames; omega), (by show 8 + (y.2.2.1 + 11) + 60 * fr9 ≤ R.locals; omega), zW_stay hts hc, List.mem_cons_self, hts _ hc.1, hts _ hc.2.1, hc.2.2.1, zCb_sig hc, hts _ hlk⟩
  refine zAfter (a := (As).toArray) (yc := yc) (ys := ys) (st := st) ?_ C h1 h2 h3 h4 (by omega) (by omega) hS hl hx kk
  exact vx_runS (n := n) ⟨C.1, C.2.1, C.2.2.1, C.2.2.2.2.2.1, hts⟩ hy ⟨hcb, hts _ hst⟩ hP rfl hn hsz rfl (lv_room hcat) hd ⟨by omega, by omega⟩
theorem Z.callI {V : zV} {M : zM} {fr : Nat} {Q : Option Value → zH → Prop} {QX : String → zH → Prop} {mc ms pc : Nat} {L : zLs} {st : List Value} {G : zH} {y : zM} {n fr9 yc ys idx : Nat} {As : List Value} {Qy : Option Value → zH → Prop} {Qyx : String → zH → Prop} {b : Nat} (hV : zOk V) (hy : zMet V y fr9 yc ys (.ref b :: As) G Qy Qyx) (hc : zCb y n) (hlk : Cond.methodLink M.1.cls idx y.1 ∈ zT) (hin : Cond.instanceMethod y.1 ∈ zT) (hnm : y.1.name = "<init>") (hrt : y.2.2.2 = none) (hd : decode M.2.1 pc = .ok (.invokespecial idx, 3)) (hn : As.length = n) (hLl : L.length = M.2.2.1) (hcat : (st.map fun v => v.category).sum ≤ 8) (hf9 : fr9 + 1 ≤ fr) (hx : ∀ (E : String) (G' : zH), Qyx E G' → QX E G') (kk : ∀ (v : Option Value) (G' : zH), Qy v G' → Z V M fr Q QX mc ms (pc + 3) L (v.toList ++ st) G') : Z V M fr Q QX (mc + yc) (ms + ys) pc L (As.reverse ++ .ref b :: st) G := by
  intro p e R s m args below meth c H locs cells slots CT ST ls C h1 h2 h3 h4 h5 h6 hS hR hl
  have hts := C.2.2.2.2.2.2.2.1
  have hK : va_K V.2.1 V.2.2.1 (zTy V.2.1 V.2.2.2.1) s := C.2.2.2.2.2.2.2.2.1
  have hP := zPc_at (As := (.ref b :: As)) hV C hS hR
  have hml := hc.2.2.2.2
  have hsz : ls.size = M.2.2.1 := hl.1.trans hLl
  have hcb : CallB R s args M.1.cls idx y.1 y.2.1 y.2.2.1 none (zW y) (zRm fr9 yc ys) yc ys n := by rw [← hrt]; exact ⟨rfl, rfl, (by show fr9 + 1 ≤ R.frames; omega), (by show 8 + (y.2.2.1 + 11) + 60 * fr9 ≤ R.locals; omega), zW_stay hts hc, List.mem_cons_self, hts _ hc.1, hts _ hc.2.1, hc.2.2.1, zCb_sig hc, hts _ hlk⟩
  refine zAfter (a := ((.ref b :: As)).toArray) (yc := yc) (ys := ys) (st := st) ?_ C h1 h2 h3 h4 (by omega) (by omega) hS hl hx kk
  exact vx_runI (n := n) ⟨C.1, C.2.1, C.2.2.1, C.2.2.2.2.2.1, hts⟩ hy ⟨hcb, hnm, hts _ hin⟩ hP rfl hn hsz rfl (lv_room hcat) hd ⟨by omega, by omega⟩
theorem Z.callIN {V : zV} {M : zM} {fr : Nat} {Q : Option Value → zH → Prop} {QX : String → zH → Prop} {mc ms pc : Nat} {L : zLs} {st : List Value} {G : zH} {y : zM} {n fr9 yc ys idx : Nat} {As : List Value} {Qy : Option Value → zH → Prop} {Qyx : String → zH → Prop} {b : Nat} {host : String} (hV : zOk V) (hy : zMet V y fr9 yc ys (.ref b :: As) G Qy Qyx) (hc : zCb y n) (hlk : Cond.methodLinkNest M.1.cls idx y.1 host ∈ zT) (hin : Cond.instanceMethod y.1 ∈ zT) (hnm : y.1.name = "<init>") (hrt : y.2.2.2 = none) (hd : decode M.2.1 pc = .ok (.invokespecial idx, 3)) (hn : As.length = n) (hLl : L.length = M.2.2.1) (hcat : (st.map fun v => v.category).sum ≤ 8) (hf9 : fr9 + 1 ≤ fr) (hx : ∀ (E : String) (G' : zH), Qyx E G' → QX E G') (kk : ∀ (v : Option Value) (G' : zH), Qy v G' → Z V M fr Q QX mc ms (pc + 3) L (v.toList ++ st) G') : Z V M fr Q QX (mc + yc) (ms + ys) pc L (As.reverse ++ .ref b :: st) G := by
  intro p e R s m args below meth c H locs cells slots CT ST ls C h1 h2 h3 h4 h5 h6 hS hR hl
  have hts := C.2.2.2.2.2.2.2.1
  have hK : va_K V.2.1 V.2.2.1 (zTy V.2.1 V.2.2.2.1) s := C.2.2.2.2.2.2.2.2.1
  have hP := zPc_at (As := (.ref b :: As)) hV C hS hR
  have hml := hc.2.2.2.2
  have hsz : ls.size = M.2.2.1 := hl.1.trans hLl
  have hcb : va_CN R s args M.1.cls idx y.1 host y.2.1 y.2.2.1 none (zW y) (zRm fr9 yc ys) yc ys n := by rw [← hrt]; exact ⟨⟨rfl, rfl, (by show fr9 + 1 ≤ R.frames; omega), (by show 8 + (y.2.2.1 + 11) + 60 * fr9 ≤ R.locals; omega), zW_stay hts hc, List.mem_cons_self⟩, hts _ hc.1, hts _ hc.2.1, hc.2.2.1, zCb_sig hc, hts _ hlk⟩
  refine zAfter (a := ((.ref b :: As)).toArray) (yc := yc) (ys := ys) (st := st) ?_ C h1 h2 h3 h4 (by omega) (by omega) hS hl hx kk
  exact vx_runIN (n := n) ⟨C.1, C.2.1, C.2.2.1, C.2.2.2.2.2.1, hts⟩ hy ⟨hcb, hnm, hts _ hin⟩ hP rfl hn hsz rfl (lv_room hcat) hd ⟨by omega, by omega⟩
theorem Z.callSN {V : zV} {M : zM} {fr : Nat} {Q : Option Value → zH → Prop} {QX : String → zH → Prop} {mc ms pc : Nat} {L : zLs} {st : List Value} {G : zH} {y : zM} {n fr9 yc ys idx : Nat} {As : List Value} {Qy : Option Value → zH → Prop} {Qyx : String → zH → Prop} {host : String} (hV : zOk V) (hy : zMet V y fr9 yc ys As G Qy Qyx) (hc : zCb y n) (hlk : Cond.methodLinkNest M.1.cls idx y.1 host ∈ zT) (hst : Cond.static y.1 ∈ zT) (hd : decode M.2.1 pc = .ok (.invokestatic idx, 3)) (hn : As.length = n) (hLl : L.length = M.2.2.1) (hcat : (st.map fun v => v.category).sum ≤ 8) (hf9 : fr9 + 1 ≤ fr) (hx : ∀ (E : String) (G' : zH), Qyx E G' → QX E G') (kk : ∀ (v : Option Value) (G' : zH), Qy v G' → Z V M fr Q QX mc ms (pc + 3) L (v.toList ++ st) G') : Z V M fr Q QX (mc + yc) (ms + ys) pc L (As.reverse ++ st) G := by
  intro p e R s m args below meth c H locs cells slots CT ST ls C h1 h2 h3 h4 h5 h6 hS hR hl
  have hts := C.2.2.2.2.2.2.2.1
  have hK : va_K V.2.1 V.2.2.1 (zTy V.2.1 V.2.2.2.1) s := C.2.2.2.2.2.2.2.2.1
  have hP := zPc_at (As := As) hV C hS hR
  have hml := hc.2.2.2.2
  have hsz : ls.size = M.2.2.1 := hl.1.trans hLl
  have hcb : va_CN R s args M.1.cls idx y.1 host y.2.1 y.2.2.1 y.2.2.2 (zW y) (zRm fr9 yc ys) yc ys n := ⟨⟨rfl, rfl, (by show fr9 + 1 ≤ R.frames; omega), (by show 8 + (y.2.2.1 + 11) + 60 * fr9 ≤ R.locals; omega), zW_stay hts hc, List.mem_cons_self⟩, hts _ hc.1, hts _ hc.2.1, hc.2.2.1, zCb_sig hc, hts _ hlk⟩
  refine zAfter (a := (As).toArray) (yc := yc) (ys := ys) (st := st) ?_ C h1 h2 h3 h4 (by omega) (by omega) hS hl hx kk
  exact vx_runSN (n := n) ⟨C.1, C.2.1, C.2.2.1, C.2.2.2.2.2.1, hts⟩ hy ⟨hcb, hts _ hst, trivial⟩ hP rfl hn hsz rfl (lv_room hcat) hd ⟨by omega, by omega⟩
theorem Z.callSU {V : zV} {M : zM} {fr : Nat} {Q : Option Value → zH → Prop} {QX : String → zH → Prop} {mc ms pc : Nat} {L : zLs} {st : List Value} {G : zH} {y : zM} {n fr9 yc ys idx : Nat} {As : List Value} {Qy : Option Value → zH → Prop} {Qyx : String → zH → Prop} {b c0 ci : Nat} {r : vw_C} {fs : List Value} (hV : zOk V) (hy : zMet V y fr9 yc ys (.ref b :: As) G Qy Qyx) (hc : zCb y n) (hlk : Cond.methodLink M.1.cls idx y.1 ∈ zT) (hsm : Cond.sameMethod y.1.cls y.1.cls y.1.name y.1.desc ∈ zT) (hsu : Cond.superclass M.1.cls y.1.cls ∈ zT) (hin : Cond.instanceMethod y.1 ∈ zT) (hni : y.1.name ≠ "<init>") (hrc : V.2.2.1[ci]? = some r) (hG : G.2 b = some (.inr (c0, fs))) (hcm : c0 % 1000 = ci) (hd : decode M.2.1 pc = .ok (.invokespecial idx, 3)) (hn : As.length = n) (hLl : L.length = M.2.2.1) (hcat : (st.map fun v => v.category).sum ≤ 8) (hf9 : fr9 + 1 ≤ fr) (hx : ∀ (E : String) (G' : zH), Qyx E G' → QX E G') (kk : ∀ (v : Option Value) (G' : zH), Qy v G' → Z V M fr Q QX mc ms (pc + 3) L (v.toList ++ st) G') : Z V M fr Q QX (mc + yc) (ms + ys) pc L (As.reverse ++ .ref b :: st) G := by
  intro p e R s m args below meth c H locs cells slots CT ST ls C h1 h2 h3 h4 h5 h6 hS hR hl
  have hts := C.2.2.2.2.2.2.2.1
  have hK : va_K V.2.1 V.2.2.1 (zTy V.2.1 V.2.2.2.1) s := C.2.2.2.2.2.2.2.2.1
  have hP := zPc_at (As := (.ref b :: As)) hV C hS hR
  have hml := hc.2.2.2.2
  have hsz : ls.size = M.2.2.1 := hl.1.trans hLl
  have hcb : va_CS R s args M.1.cls idx y.1 y.2.1 y.2.2.1 y.2.2.2 (zW y) (zRm fr9 yc ys) yc ys n := ⟨⟨rfl, rfl, (by show fr9 + 1 ≤ R.frames; omega), (by show 8 + (y.2.2.1 + 11) + 60 * fr9 ≤ R.locals; omega), zW_stay hts hc, List.mem_cons_self⟩, hts _ hlk, hts _ hsm, hts _ hsu, hts _ hin, hts _ hc.2.1, hts _ hc.1, hni, zCb_sig hc⟩
  subst hcm
  obtain ⟨-, r9, cellB, g0, g1, g2, g3, g4, g5, -⟩ := hR.2 b _ hG
  refine zAfter (a := ((.ref b :: As)).toArray) (yc := yc) (ys := ys) (st := st) ?_ C h1 h2 h3 h4 (by omega) (by omega) hS hl hx kk
  exact vx_runSU (C := r.1) (n := n) (hK.1 _ r hrc).2 ⟨C.1, C.2.1, C.2.2.1, C.2.2.2.2.2.1, hts⟩ hy hcb ⟨hP.1, ⟨cellB, g1, g5, by rw [g2]; exact (hK.1 _ r hrc).2.1⟩, hP.2⟩ rfl hn hsz rfl (lv_room hcat) hd ⟨by omega, by omega⟩
theorem Z.throwS {V : zV} {M : zM} {fr : Nat} {Q : Option Value → zH → Prop} {QX : String → zH → Prop} {mc ms pc : Nat} {L : zLs} {st : List Value} {G : zH} {cls text : String} {names : List String} {ik is ic : Nat} (hV : zOk V) (hO : ∀ (U : State) (H : Heap), V.2.2.2.2.2 U H → vx_Zq Bundle.tN "UNASSIGNED_STACK" Bundle.steD (zA V) U H ∧ vx_Zq Bundle.tN "SUPPRESSED_SENTINEL" Bundle.listD (zA V) U H ∧ ∃ sa : Nat, vk_R M.1.cls is text sa U)
    (hcls : Bundle.fit cls = true) (hnames : ∀ n ∈ names, Bundle.fit n = true) (w1 : Cond.classLink M.1.cls ik cls ∈ zT) (w2 : Cond.initialized cls ∈ zT) (w3 : ∀ w ∈ vx_atS M.1.cls ic cls names, w ∈ zT) (hgood : ∀ w ∈ Cond.classLink M.1.cls ik cls :: Cond.initialized cls :: vx_atS M.1.cls ic cls names, vx_ot w = true)
    (hn : names.length ≤ 2) (hfr : 6 ≤ fr) (hLl : L.length = M.2.2.1) (hcat : (st.map fun v => v.category).sum ≤ 8)
    (d0 : decode M.2.1 pc = .ok (.new ik, 3)) (d3 : decode M.2.1 (pc + 3) = .ok (.dup, 1)) (d4 : decode M.2.1 (pc + 4) = .ok (.ldc is, 2)) (d6 : decode M.2.1 (pc + 6) = .ok (.invokespecial ic, 3)) (d9 : decode M.2.1 (pc + 9) = .ok (.athrow, 1))
    (hq : ∀ n : Nat, G.1 ≤ n → QX cls (n, G.2)) : Z V M fr Q QX (mc + 1) (ms + 6) pc L st G := by
  intro p e R s m args below meth c H locs cells slots CT ST ls C h1 h2 h3 h4 h5 h6 hS hR hl
  have hts := C.2.2.2.2.2.2.2.1
  obtain ⟨o1, o2, sa, o3⟩ := hO s s.heap C.2.2.2.2.2.2.2.2.2.1
  have hsz : ls.size = c.maxLocals := (hl.1.trans hLl).trans C.2.2.1.symm
  refine vx_throwS C.1 C.2.1 hV.1 C.2.2.2.2.2.1 hcls hnames (hts _ w1) (hts _ w2) o3 (fun w hw => hts w (w3 w hw)) hgood o1 o2 hS hsz d0 d3 d4 d6 d9 (fun x h => (C.2.2.2.2.2.2.2.2.2.2.2 x h).elim) (by omega) (by omega) (by omega) (by omega) C.2.2.2.2.1 ?_ hS.2.2 (by omega) (by omega)
  intro t _ hz ho
  have hsR := hR.1
  refine ⟨(t.heap.size, G.2), hq _ (by omega), ⟨rfl, fun a e9 he => ⟨(hR.2 a e9 he).1, (hR.2 a e9 he).2.kept (ho a (hR.2 a e9 he).2.lt)⟩⟩, Nat.le_trans hS.1 hz, fun q g1 g2 => (ho q (Nat.lt_of_lt_of_le g1 hS.1)).trans (hS.2.1 q g1 g2)⟩
end
section
/-! Methods as functions of the heap: (slots used, (size, what cells hold)); none: not told (a fault, or the fuel ran out). -/
abbrev gH : Type := Nat × zH
abbrev gO : Type := String ⊕ Option Value
abbrev gR : Type := Option (gO × gH)
def gUp (G : gH) (a : Nat) (e : zE) : gH := (G.1, zUp G.2 a e)
def gNew (G : gH) (n : Nat) (e : zE) : gH := (G.1 + n, zNew G.2 e)
def gThrow (E : String) (G : gH) : gR := some (.inl E, (G.1 + 6, (G.2.1 + 1, G.2.2)))
def rI (x : Int32) (G : gH) : gR := some (.inr (some (.int x)), G)
def rZ (x : Int32) (G : gH) : gR := if x = 0 ∨ x = 1 then some (.inr (some (.int x)), G) else none
def rL (x : Int64) (G : gH) : gR := some (.inr (some (.long x)), G)
def rA (x : Nat) (G : gH) : gR := some (.inr (some (.ref x)), G)
def rV (G : gH) : gR := some (.inr none, G)
def bI (x : gR) (k : Int32 → gH → gR) : gR := match x with
  | some (.inr (some (.int v)), G) => k v G
  | some (.inl E, G) => some (.inl E, G)
  | _ => none
def bL (x : gR) (k : Int64 → gH → gR) : gR := match x with
  | some (.inr (some (.long v)), G) => k v G
  | some (.inl E, G) => some (.inl E, G)
  | _ => none
def bA (x : gR) (k : Nat → gH → gR) : gR := match x with
  | some (.inr (some (.ref v)), G) => k v G
  | some (.inl E, G) => some (.inl E, G)
  | _ => none
def bV (x : gR) (k : gH → gR) : gR := match x with
  | some (.inr none, G) => k G
  | some (.inl E, G) => some (.inl E, G)
  | _ => none
/-- the object at a, of the class ci -/
def gOb (G : gH) (a ci : Nat) (k : List Value → gR) : gR := match G.2.2 a with
  | some (.inr (c, fs)) => if c % 1000 = ci then k fs else none
  | _ => none
/-- .. that may be written -/
def gObW (G : gH) (a ci : Nat) (k : List Value → gR) : gR := match G.2.2 a with
  | some (.inr (c, fs)) => if c = ci then k fs else none
  | _ => none
def gFI (G : gH) (a ci j : Nat) (k : Int32 → gR) : gR := gOb G a ci fun fs => match fs[j]? with
  | some (.int v) => k v
  | _ => none
def gFA (G : gH) (a ci j : Nat) (k : Nat → gR) : gR := gOb G a ci fun fs => match fs[j]? with
  | some (.ref v) => k v
  | _ => none
def gPut (G : gH) (a ci j : Nat) (v : Value) (k : gH → gR) : gR := gObW G a ci fun fs => if j < fs.length then k (gUp G a (.inr (ci, fs.set j v))) else none
/-- the array at a, of the kind ka: its length, its ints -/
def gAr (G : gH) (a ka : Nat) (k : Nat → (Nat → Int32) → gR) : gR := match G.2.2 a with
  | some (.inl (c, n, .inl f)) => if c % 1000 = ka then k n f else none
  | _ => none
def gArW (G : gH) (a ka : Nat) (k : Nat → (Nat → Int32) → gR) : gR := match G.2.2 a with
  | some (.inl (c, n, .inl f)) => if c = ka then k n f else none
  | _ => none
def gAqW (G : gH) (a ka : Nat) (k : Nat → (Nat → Option Nat) → gR) : gR := match G.2.2 a with
  | some (.inl (c, n, .inr (.inr (.inr (.inr f))))) => if c = ka then k n f else none
  | _ => none
def gAq (G : gH) (a ka : Nat) (k : Nat → (Nat → Option Nat) → gR) : gR := match G.2.2 a with
  | some (.inl (c, n, .inr (.inr (.inr (.inr f))))) => if c % 1000 = ka then k n f else none
  | _ => none
def gIn (i : Int32) (n : Nat) : Bool := !(decide (i < 0) || decide (n ≤ i.toNatClampNeg))
theorem gIn_in {i : Int32} {n : Nat} (h : gIn i n = true) : vp_in i n := by
  simp only [gIn, Bool.not_eq_true', Bool.or_eq_false_iff, decide_eq_false_iff_not] at h
  exact fun q => q.elim h.1 h.2
def gLd (G : gH) (a ka : Nat) (i : Int32) (k : Int32 → gR) : gR := gAr G a ka fun n f => if gIn i n = true then k (f i.toNatClampNeg) else none
def gSt (G : gH) (a ka : Nat) (i x : Int32) (k : gH → gR) : gR := gArW G a ka fun n f => if gIn i n = true then k (gUp G a (zI ka n (upd f i.toNatClampNeg x))) else none
def gLen (G : gH) (a ka : Nat) (k : Int32 → gR) : gR := gAr G a ka fun n _ => k (nI n)
def gLenq (G : gH) (a ka : Nat) (k : Int32 → gR) : gR := gAq G a ka fun n _ => k (nI n)
def gLdq (G : gH) (a ka : Nat) (i : Int32) (k0 : gR) (k1 : Nat → gR) : gR := gAq G a ka fun n f => if gIn i n = true then (match f i.toNatClampNeg with
  | none => k0
  | some b => k1 b) else none
def gStN (G : gH) (a ka : Nat) (i : Int32) (k : gH → gR) : gR := gAqW G a ka fun n f => if gIn i n = true then k (gUp G a (zQ ka n (va_up f i.toNatClampNeg none))) else none
/-- an object of the class ci goes into an array of its class -/
def gStq (G : gH) (a ka ci : Nat) (i : Int32) (b : Nat) (k : gH → gR) : gR := gAqW G a ka fun n f => if gIn i n = true then gOb G b ci (fun _ => k (gUp G a (zQ ka n (va_up f i.toNatClampNeg (some b))))) else none
/-- an array of the kind kb goes into an array of references -/
def gStA (G : gH) (a ka kb : Nat) (i : Int32) (b : Nat) (k : gH → gR) : gR := gAqW G a ka fun n f => if gIn i n = true then gAr G b kb (fun _ _ => k (gUp G a (zQ ka n (va_up f i.toNatClampNeg (some b))))) else none
/-- whatever may lie in a list: a list, or a row of ints -/
def gStX (G : gH) (a ka : Nat) (i : Int32) (b : Nat) (k : gH → gR) : gR := match G.2.2 b with
  | some (.inr _) => gStq G a ka 9 i b k
  | some (.inl _) => gStA G a ka 100 i b k
  | none => none
def gCaO (G : gH) (a ci : Nat) (k : gR) : gR := gOb G a ci fun _ => k
def gCaA (G : gH) (a ka : Nat) (k : gR) : gR := gAr G a ka fun _ _ => k
def gCaQ (G : gH) (a ka : Nat) (k : gR) : gR := gAq G a ka fun _ _ => k
def gNewO (G : gH) (ci N : Nat) (fs : List Value) (k : Nat → gH → gR) : gR := k G.2.1 (gNew G N (.inr (ci, fs)))
def gNewA (G : gH) (ka : Nat) (n : Int32) (k : Nat → gH → gR) : gR := if ¬ n < 0 ∧ n.toNatClampNeg ≤ 60000000 then k G.2.1 (gNew G n.toNatClampNeg (zI ka n.toNatClampNeg (fun _ => 0))) else none
def gNewQ (G : gH) (ka : Nat) (n : Int32) (k : Nat → gH → gR) : gR := if ¬ n < 0 ∧ n.toNatClampNeg ≤ 60000000 then k G.2.1 (gNew G n.toNatClampNeg (zQ ka n.toNatClampNeg (fun _ => none))) else none
def gDiv (x y : Int32) (k : Int32 → gR) : gR := if y = 0 then none else k (x / y)
def gRem (x y : Int32) (k : Int32 → gR) : gR := if y = 0 then none else k (x - x / y * y)
def gGo (b : Bool) (k : gR) : gR := if b = true then k else none
/-- what is owed at the end of a method: this outcome, this heap -/
def gQ (o : gO) (Gf : gH) : Option Value → zH → Prop := fun v G' => o = .inr v ∧ G' = Gf.2
def gX (o : gO) (Gf : gH) : String → zH → Prop := fun E G' => o = .inl E ∧ Gf.2.1 ≤ G'.1 + 1 ∧ G'.2 = Gf.2.2
def gLe (G Gf : gH) : Prop := G.2.1 ≤ Gf.2.1 ∧ G.1 ≤ Gf.1
theorem gLe.rfl' {G : gH} : gLe G G := ⟨Nat.le_refl _, Nat.le_refl _⟩
/-- a method's contract out of its function -/
def gMet (V : zV) (M : zM) (fr : Nat) (As : List Value) (G : gH) (r : gR) : Prop := ∀ (o : gO) (Gf : gH), r = some (o, Gf) → gLe G Gf ∧ zMet V M fr (Gf.2.1 - G.2.1) (Gf.1 - G.1) As G.2 (gQ o Gf) (gX o Gf)
def Y (V : zV) (M : zM) (fr : Nat) (o : gO) (Gf : gH) (pc : Nat) (L : zLs) (st : List Value) (G : gH) : Prop :=
  gLe G Gf ∧ Z V M fr (gQ o Gf) (gX o Gf) (Gf.2.1 - G.2.1) (Gf.1 - G.1) pc L st G.2
section YRules
variable {V : zV} {M : zM} {fr : Nat} {o : gO} {Gf : gH} {pc : Nat} {L : zLs} {st : List Value} {G : gH}
theorem gMet.of {As : List Value} {r : gR} (hy : plainFor M.1 = true) (hn : (lg_sl As).length ≤ M.2.2.1) (L : zLs) (hL : ∀ ls, lv_has ls M.2.2.1 (lv_args 0 As) → zL ls L)
    (k : ∀ (o : gO) (Gf : gH), r = some (o, Gf) → Y V M fr o Gf 0 L [] G) : gMet V M fr As G r :=
  fun o Gf h => ⟨(k o Gf h).1, zMet.of hy hn L hL (k o Gf h).2⟩
theorem Y.blk {pc' : Nat} {L' : zLs} {st' : List Value} {sg : zSg} (hs : zSeg M.2.1 sg pc = true) (hr : zRun sg pc L st = some (pc', L', st')) (k : Y V M fr o Gf pc' L' st' G) : Y V M fr o Gf pc L st G := by
  exact ⟨k.1, Z.blk hs hr k.2⟩
theorem Y.less {L' : zLs} (h : zLe L' L) (k : Y V M fr o Gf pc L' st G) : Y V M fr o Gf pc L st G := by
  exact ⟨k.1, Z.less h k.2⟩
theorem Y.if_eq {x : Int32} {off : Int} {tgt : Nat} {A B : gR} (hd : decode M.2.1 pc = .ok (.ifCond .eq off, 3)) (ht : (pc : Int) + off = (tgt : Int)) (h : (if x = 0 then A else B) = some (o, Gf)) (kt : x = 0 → A = some (o, Gf) → Y V M fr o Gf tgt L st G) (kf : ¬ (x = 0) → B = some (o, Gf) → Y V M fr o Gf (pc + 3) L st G) : Y V M fr o Gf pc L (.int x :: st) G := by
  by_cases hP : x = 0
  · rw [if_pos hP] at h
    have k := kt hP h
    exact ⟨k.1, Z.if_eq hd ht (fun _ => k.2) (fun q => absurd hP q)⟩
  · rw [if_neg hP] at h
    have k := kf hP h
    exact ⟨k.1, Z.if_eq hd ht (fun q => absurd q hP) (fun _ => k.2)⟩
theorem Y.ic_eq {x y : Int32} {off : Int} {tgt : Nat} {A B : gR} (hd : decode M.2.1 pc = .ok (.if_icmp .eq off, 3)) (ht : (pc : Int) + off = (tgt : Int)) (h : (if x = y then A else B) = some (o, Gf)) (kt : x = y → A = some (o, Gf) → Y V M fr o Gf tgt L st G) (kf : ¬ (x = y) → B = some (o, Gf) → Y V M fr o Gf (pc + 3) L st G) : Y V M fr o Gf pc L (.int y :: .int x :: st) G := by
  by_cases hP : x = y
  · rw [if_pos hP] at h
    have k := kt hP h
    exact ⟨k.1, Z.ic_eq hd ht (fun _ => k.2) (fun q => absurd hP q)⟩
  · rw [if_neg hP] at h
    have k := kf hP h
    exact ⟨k.1, Z.ic_eq hd ht (fun q => absurd q hP) (fun _ => k.2)⟩
theorem Y.if_ne {x : Int32} {off : Int} {tgt : Nat} {A B : gR} (hd : decode M.2.1 pc = .ok (.ifCond .ne off, 3)) (ht : (pc : Int) + off = (tgt : Int)) (h : (if x = 0 then A else B) = some (o, Gf)) (kt : x = 0 → A = some (o, Gf) → Y V M fr o Gf (pc + 3) L st G) (kf : ¬ (x = 0) → B = some (o, Gf) → Y V M fr o Gf tgt L st G) : Y V M fr o Gf pc L (.int x :: st) G := by
  by_cases hP : x = 0
  · rw [if_pos hP] at h
    have k := kt hP h
    exact ⟨k.1, Z.if_ne hd ht (fun q => absurd hP q) (fun _ => k.2)⟩
  · rw [if_neg hP] at h
    have k := kf hP h
    exact ⟨k.1, Z.if_ne hd ht (fun _ => k.2) (fun q => absurd q hP)⟩
theorem Y.ic_ne {x y : Int32} {off : Int} {tgt : Nat} {A B : gR} (hd : decode M.2.1 pc = .ok (.if_icmp .ne off, 3)) (ht : (pc : Int) + off = (tgt : Int)) (h : (if x = y then A else B) = some (o, Gf)) (kt : x = y → A = some (o, Gf) → Y V M fr o Gf (pc + 3) L st G) (kf : ¬ (x = y) → B = some (o, Gf) → Y V M fr o Gf tgt L st G) : Y V M fr o Gf pc L (.int y :: .int x :: st) G := by
  by_cases hP : x = y
  · rw [if_pos hP] at h
    have k := kt hP h
    exact ⟨k.1, Z.ic_ne hd ht (fun q => absurd hP q) (fun _ => k.2)⟩
  · rw [if_neg hP] at h
    have k := kf hP h
    exact ⟨k.1, Z.ic_ne hd ht (fun _ => k.2) (fun q => absurd q hP)⟩
theorem Y.if_lt {x : Int32} {off : Int} {tgt : Nat} {A B : gR} (hd : decode M.2.1 pc = .ok (.ifCond .lt off, 3)) (ht : (pc : Int) + off = (tgt : Int)) (h : (if x < 0 then A else B) = some (o, Gf)) (kt : x < 0 → A = some (o, Gf) → Y V M fr o Gf tgt L st G) (kf : ¬ (x < 0) → B = some (o, Gf) → Y V M fr o Gf (pc + 3) L st G) : Y V M fr o Gf pc L (.int x :: st) G := by
  by_cases hP : x < 0
  · rw [if_pos hP] at h
    have k := kt hP h
    exact ⟨k.1, Z.if_lt hd ht (fun _ => k.2) (fun q => absurd hP q)⟩
  · rw [if_neg hP] at h
    have k := kf hP h
    exact ⟨k.1, Z.if_lt hd ht (fun q => absurd q hP) (fun _ => k.2)⟩
theorem Y.ic_lt {x y : Int32} {off : Int} {tgt : Nat} {A B : gR} (hd : decode M.2.1 pc = .ok (.if_icmp .lt off, 3)) (ht : (pc : Int) + off = (tgt : Int)) (h : (if x < y then A else B) = some (o, Gf)) (kt : x < y → A = some (o, Gf) → Y V M fr o Gf tgt L st G) (kf : ¬ (x < y) → B = some (o, Gf) → Y V M fr o Gf (pc + 3) L st G) : Y V M fr o Gf pc L (.int y :: .int x :: st) G := by
  by_cases hP : x < y
  · rw [if_pos hP] at h
    have k := kt hP h
    exact ⟨k.1, Z.ic_lt hd ht (fun _ => k.2) (fun q => absurd hP q)⟩
  · rw [if_neg hP] at h
    have k := kf hP h
    exact ⟨k.1, Z.ic_lt hd ht (fun q => absurd q hP) (fun _ => k.2)⟩
theorem Y.if_ge {x : Int32} {off : Int} {tgt : Nat} {A B : gR} (hd : decode M.2.1 pc = .ok (.ifCond .ge off, 3)) (ht : (pc : Int) + off = (tgt : Int)) (h : (if 0 ≤ x then A else B) = some (o, Gf)) (kt : 0 ≤ x → A = some (o, Gf) → Y V M fr o Gf tgt L st G) (kf : ¬ (0 ≤ x) → B = some (o, Gf) → Y V M fr o Gf (pc + 3) L st G) : Y V M fr o Gf pc L (.int x :: st) G := by
  by_cases hP : 0 ≤ x
  · rw [if_pos hP] at h
    have k := kt hP h
    exact ⟨k.1, Z.if_ge hd ht (fun _ => k.2) (fun q => absurd hP q)⟩
  · rw [if_neg hP] at h
    have k := kf hP h
    exact ⟨k.1, Z.if_ge hd ht (fun q => absurd q hP) (fun _ => k.2)⟩
theorem Y.ic_ge {x y : Int32} {off : Int} {tgt : Nat} {A B : gR} (hd : decode M.2.1 pc = .ok (.if_icmp .ge off, 3)) (ht : (pc : Int) + off = (tgt : Int)) (h : (if y ≤ x then A else B) = some (o, Gf)) (kt : y ≤ x → A = some (o, Gf) → Y V M fr o Gf tgt L st G) (kf : ¬ (y ≤ x) → B = some (o, Gf) → Y V M fr o Gf (pc + 3) L st G) : Y V M fr o Gf pc L (.int y :: .int x :: st) G := by
  by_cases hP : y ≤ x
  · rw [if_pos hP] at h
    have k := kt hP h
    exact ⟨k.1, Z.ic_ge hd ht (fun _ => k.2) (fun q => absurd hP q)⟩
  · rw [if_neg hP] at h
    have k := kf hP h
    exact ⟨k.1, Z.ic_ge hd ht (fun q => absurd q hP) (fun _ => k.2)⟩
theorem Y.if_gt {x : Int32} {off : Int} {tgt : Nat} {A B : gR} (hd : decode M.2.1 pc = .ok (.ifCond .gt off, 3)) (ht : (pc : Int) + off = (tgt : Int)) (h : (if 0 < x then A else B) = some (o, Gf)) (kt : 0 < x → A = some (o, Gf) → Y V M fr o Gf tgt L st G) (kf : ¬ (0 < x) → B = some (o, Gf) → Y V M fr o Gf (pc + 3) L st G) : Y V M fr o Gf pc L (.int x :: st) G := by
  by_cases hP : 0 < x
  · rw [if_pos hP] at h
    have k := kt hP h
    exact ⟨k.1, Z.if_gt hd ht (fun _ => k.2) (fun q => absurd hP q)⟩
  · rw [if_neg hP] at h
    have k := kf hP h
    exact ⟨k.1, Z.if_gt hd ht (fun q => absurd q hP) (fun _ => k.2)⟩
theorem Y.ic_gt {x y : Int32} {off : Int} {tgt : Nat} {A B : gR} (hd : decode M.2.1 pc = .ok (.if_icmp .gt off, 3)) (ht : (pc : Int) + off = (tgt : Int)) (h : (if y < x then A else B) = some (o, Gf)) (kt : y < x → A = some (o, Gf) → Y V M fr o Gf tgt L st G) (kf : ¬ (y < x) → B = some (o, Gf) → Y V M fr o Gf (pc + 3) L st G) : Y V M fr o Gf pc L (.int y :: .int x :: st) G := by
  by_cases hP : y < x
  · rw [if_pos hP] at h
    have k := kt hP h
    exact ⟨k.1, Z.ic_gt hd ht (fun _ => k.2) (fun q => absurd hP q)⟩
  · rw [if_neg hP] at h
    have k := kf hP h
    exact ⟨k.1, Z.ic_gt hd ht (fun q => absurd q hP) (fun _ => k.2)⟩
theorem Y.if_le {x : Int32} {off : Int} {tgt : Nat} {A B : gR} (hd : decode M.2.1 pc = .ok (.ifCond .le off, 3)) (ht : (pc : Int) + off = (tgt : Int)) (h : (if x ≤ 0 then A else B) = some (o, Gf)) (kt : x ≤ 0 → A = some (o, Gf) → Y V M fr o Gf tgt L st G) (kf : ¬ (x ≤ 0) → B = some (o, Gf) → Y V M fr o Gf (pc + 3) L st G) : Y V M fr o Gf pc L (.int x :: st) G := by
  by_cases hP : x ≤ 0
  · rw [if_pos hP] at h
    have k := kt hP h
    exact ⟨k.1, Z.if_le hd ht (fun _ => k.2) (fun q => absurd hP q)⟩
  · rw [if_neg hP] at h
    have k := kf hP h
    exact ⟨k.1, Z.if_le hd ht (fun q => absurd q hP) (fun _ => k.2)⟩
theorem Y.ic_le {x y : Int32} {off : Int} {tgt : Nat} {A B : gR} (hd : decode M.2.1 pc = .ok (.if_icmp .le off, 3)) (ht : (pc : Int) + off = (tgt : Int)) (h : (if x ≤ y then A else B) = some (o, Gf)) (kt : x ≤ y → A = some (o, Gf) → Y V M fr o Gf tgt L st G) (kf : ¬ (x ≤ y) → B = some (o, Gf) → Y V M fr o Gf (pc + 3) L st G) : Y V M fr o Gf pc L (.int y :: .int x :: st) G := by
  by_cases hP : x ≤ y
  · rw [if_pos hP] at h
    have k := kt hP h
    exact ⟨k.1, Z.ic_le hd ht (fun _ => k.2) (fun q => absurd hP q)⟩
  · rw [if_neg hP] at h
    have k := kf hP h
    exact ⟨k.1, Z.ic_le hd ht (fun q => absurd q hP) (fun _ => k.2)⟩
theorem Y.goto {off : Int} {tgt : Nat} (hd : decode M.2.1 pc = .ok (.goto off, 3)) (ht : (pc : Int) + off = (tgt : Int)) (k : Y V M fr o Gf tgt L st G) : Y V M fr o Gf pc L st G := by
  exact ⟨k.1, Z.goto hd ht k.2⟩
theorem Y.ifnull_r {x : Nat} {off : Int} (hd : decode M.2.1 pc = .ok (.ifnull off, 3)) (k : Y V M fr o Gf (pc + 3) L st G) : Y V M fr o Gf pc L (.ref x :: st) G := by
  exact ⟨k.1, Z.ifnull_r hd k.2⟩
theorem Y.ifnonnull_n {off : Int} (hd : decode M.2.1 pc = .ok (.ifnonnull off, 3)) (k : Y V M fr o Gf (pc + 3) L st G) : Y V M fr o Gf pc L (.null :: st) G := by
  exact ⟨k.1, Z.ifnonnull_n (x := 0) hd k.2⟩
theorem Y.ifnull_n {off : Int} {tgt : Nat} (hd : decode M.2.1 pc = .ok (.ifnull off, 3)) (ht : (pc : Int) + off = (tgt : Int)) (k : Y V M fr o Gf tgt L st G) : Y V M fr o Gf pc L (.null :: st) G := by
  exact ⟨k.1, Z.ifnull_n (x := 0) hd ht k.2⟩
theorem Y.ifnonnull_r {x : Nat} {off : Int} {tgt : Nat} (hd : decode M.2.1 pc = .ok (.ifnonnull off, 3)) (ht : (pc : Int) + off = (tgt : Int)) (k : Y V M fr o Gf tgt L st G) : Y V M fr o Gf pc L (.ref x :: st) G := by
  exact ⟨k.1, Z.ifnonnull_r hd ht k.2⟩
theorem Y.swIn {dflt lo hi : Int} {offs : Array Int} {len : Nat} {x : Int32} {off : Int} {tgt : Nat} (hd : decode M.2.1 pc = .ok (.tableswitch dflt lo hi offs, len)) (g1 : ¬ x.toInt < lo) (g2 : ¬ hi < x.toInt) (ho : offs[(x.toInt - lo).toNat]? = some off) (ht : (pc : Int) + off = (tgt : Int)) (k : Y V M fr o Gf tgt L st G) : Y V M fr o Gf pc L (.int x :: st) G := by
  exact ⟨k.1, Z.swIn hd g1 g2 ho ht k.2⟩
theorem Y.swOut {dflt lo hi : Int} {offs : Array Int} {len : Nat} {x : Int32} {tgt : Nat} (hd : decode M.2.1 pc = .ok (.tableswitch dflt lo hi offs, len)) (g : x.toInt < lo ∨ hi < x.toInt) (ht : (pc : Int) + dflt = (tgt : Int)) (k : Y V M fr o Gf tgt L st G) : Y V M fr o Gf pc L (.int x :: st) G := by
  exact ⟨k.1, Z.swOut hd g ht k.2⟩
theorem Y.idiv {x y : Int32} {k : Int32 → gR} (hd : decode M.2.1 pc = .ok (.idiv, 1)) (h : gDiv x y k = some (o, Gf)) (kk : ∀ v : Int32, k v = some (o, Gf) → Y V M fr o Gf (pc + 1) L (.int v :: st) G) : Y V M fr o Gf pc L (.int y :: .int x :: st) G := by
  unfold gDiv at h
  split at h
  · cases h
  · next hne =>
    have k9 := kk _ h
    exact ⟨k9.1, Z.idiv hd hne k9.2⟩
theorem Y.irem {x y : Int32} {k : Int32 → gR} (hd : decode M.2.1 pc = .ok (.irem, 1)) (h : gRem x y k = some (o, Gf)) (kk : ∀ v : Int32, k v = some (o, Gf) → Y V M fr o Gf (pc + 1) L (.int v :: st) G) : Y V M fr o Gf pc L (.int y :: .int x :: st) G := by
  unfold gRem at h
  split at h
  · cases h
  · next hne =>
    have k9 := kk _ h
    exact ⟨k9.1, Z.irem hd hne k9.2⟩
theorem gOb_inv {a ci : Nat} {k : List Value → gR} (h : gOb G a ci k = some (o, Gf)) : ∃ c fs, G.2.2 a = some (.inr (c, fs)) ∧ c % 1000 = ci ∧ k fs = some (o, Gf) := by
  unfold gOb at h
  split at h
  · next c fs he =>
    split at h
    · next hc => exact ⟨c, fs, he, hc, h⟩
    · cases h
  · cases h
theorem gAr_inv {a ci : Nat} {k : Nat → (Nat → Int32) → gR} (h : gAr G a ci k = some (o, Gf)) : ∃ c n f, G.2.2 a = some (zI c n f) ∧ c % 1000 = ci ∧ k n f = some (o, Gf) := by
  unfold gAr at h
  split at h
  · next c n f he =>
    split at h
    · next hc => exact ⟨c, n, f, he, hc, h⟩
    · cases h
  · cases h
theorem gAq_inv {a ci : Nat} {k : Nat → (Nat → Option Nat) → gR} (h : gAq G a ci k = some (o, Gf)) : ∃ c n f, G.2.2 a = some (zQ c n f) ∧ c % 1000 = ci ∧ k n f = some (o, Gf) := by
  unfold gAq at h
  split at h
  · next c n f he =>
    split at h
    · next hc => exact ⟨c, n, f, he, hc, h⟩
    · cases h
  · cases h
theorem gObW_inv {a ci : Nat} {k : List Value → gR} (h : gObW G a ci k = some (o, Gf)) : ∃ fs, G.2.2 a = some (.inr (ci, fs)) ∧ k fs = some (o, Gf) := by
  unfold gObW at h
  split at h
  · next c fs he =>
    split at h
    · next hc => subst hc; exact ⟨fs, he, h⟩
    · cases h
  · cases h
theorem gArW_inv {a ci : Nat} {k : Nat → (Nat → Int32) → gR} (h : gArW G a ci k = some (o, Gf)) : ∃ n f, G.2.2 a = some (zI ci n f) ∧ k n f = some (o, Gf) := by
  unfold gArW at h
  split at h
  · next c n f he =>
    split at h
    · next hc => subst hc; exact ⟨n, f, he, h⟩
    · cases h
  · cases h
theorem gAqW_inv {a ci : Nat} {k : Nat → (Nat → Option Nat) → gR} (h : gAqW G a ci k = some (o, Gf)) : ∃ n f, G.2.2 a = some (zQ ci n f) ∧ k n f = some (o, Gf) := by
  unfold gAqW at h
  split at h
  · next c n f he =>
    split at h
    · next hc => subst hc; exact ⟨n, f, he, h⟩
    · cases h
  · cases h
theorem Y.getI {a ci k idx : Nat} {ty : FieldType} {fin : Bool} {kk : Int32 → gR} (hf : zFl V.2.2.1 M.1.cls idx ci k ty fin) (hd : decode M.2.1 pc = .ok (.getfield idx, 3)) (h : gFI G a ci k kk = some (o, Gf)) (k9 : ∀ v : Int32, kk v = some (o, Gf) → Y V M fr o Gf (pc + 3) L (.int v :: st) G) : Y V M fr o Gf pc L (.ref a :: st) G := by
  obtain ⟨c0, fs, he, hm, h⟩ := gOb_inv h
  try dsimp only at h
  split at h
  · next v hv =>
    have k8 := k9 v h
    exact ⟨k8.1, Z.getf hf hd he hm hv k8.2⟩
  · cases h
theorem Y.getA {a ci k idx : Nat} {ty : FieldType} {fin : Bool} {kk : Nat → gR} (hf : zFl V.2.2.1 M.1.cls idx ci k ty fin) (hd : decode M.2.1 pc = .ok (.getfield idx, 3)) (h : gFA G a ci k kk = some (o, Gf)) (k9 : ∀ v : Nat, kk v = some (o, Gf) → Y V M fr o Gf (pc + 3) L (.ref v :: st) G) : Y V M fr o Gf pc L (.ref a :: st) G := by
  obtain ⟨c0, fs, he, hm, h⟩ := gOb_inv h
  try dsimp only at h
  split at h
  · next v hv =>
    have k8 := k9 v h
    exact ⟨k8.1, Z.getf hf hd he hm hv k8.2⟩
  · cases h
theorem Y.putf {a ci k idx : Nat} {ty : FieldType} {v : Value} {kk : gH → gR} (hf : zFl V.2.2.1 M.1.cls idx ci k ty false) (hci : ci < 1000) (hn : narrow ty v = v) (hfit : fits ty v = true) (hd : decode M.2.1 pc = .ok (.putfield idx, 3)) (h : gPut G a ci k v kk = some (o, Gf)) (k9 : ∀ G' : gH, G'.1 = G.1 → G'.2.1 = G.2.1 → kk G' = some (o, Gf) → Y V M fr o Gf (pc + 3) L st G') : Y V M fr o Gf pc L (v :: .ref a :: st) G := by
  obtain ⟨fs, he, h⟩ := gObW_inv h
  try dsimp only at h
  split at h
  · next hl =>
    have k8 := k9 (gUp G a (.inr (ci, fs.set k v))) rfl rfl h
    exact ⟨k8.1, Z.putf hf hci hd he hl hn hfit k8.2⟩
  · cases h
theorem Y.putF {a ci k idx : Nat} {ty : FieldType} {v : Value} {kk : gH → gR} (hf : zFl V.2.2.1 M.1.cls idx ci k ty true) (hin2 : M.1.name = "<init>") (hci : ci < 1000) (hn : narrow ty v = v) (hfit : fits ty v = true) (hd : decode M.2.1 pc = .ok (.putfield idx, 3)) (h : gPut G a ci k v kk = some (o, Gf)) (k9 : ∀ G' : gH, G'.1 = G.1 → G'.2.1 = G.2.1 → kk G' = some (o, Gf) → Y V M fr o Gf (pc + 3) L st G') : Y V M fr o Gf pc L (v :: .ref a :: st) G := by
  obtain ⟨fs, he, h⟩ := gObW_inv h
  try dsimp only at h
  split at h
  · next hl =>
    have k8 := k9 (gUp G a (.inr (ci, fs.set k v))) rfl rfl h
    exact ⟨k8.1, Z.putF hf hin2 hci hd he hl hn hfit k8.2⟩
  · cases h
theorem Y.iald {a ka t0 : Nat} {i : Int32} {kk : Int32 → gR} (hd : decode M.2.1 pc = .ok (.iaload, 1)) (ht : V.2.2.2.1[t0]? = some (ka, .int)) (h : gLd G a ka i kk = some (o, Gf)) (k9 : ∀ v : Int32, kk v = some (o, Gf) → Y V M fr o Gf (pc + 1) L (.int v :: st) G) : Y V M fr o Gf pc L (.int i :: .ref a :: st) G := by
  obtain ⟨c0, n, f, he, hm, h⟩ := gAr_inv h
  try dsimp only at h
  split at h
  · next hi =>
    have k8 := k9 _ h
    exact ⟨k8.1, Z.iald hd ht he hm (gIn_in hi) k8.2⟩
  · cases h
theorem Y.bald {a ka t0 : Nat} {i : Int32} {kk : Int32 → gR} (hd : decode M.2.1 pc = .ok (.baload, 1)) (ht : V.2.2.2.1[t0]? = some (ka, .byte)) (h : gLd G a ka i kk = some (o, Gf)) (k9 : ∀ v : Int32, kk v = some (o, Gf) → Y V M fr o Gf (pc + 1) L (.int v :: st) G) : Y V M fr o Gf pc L (.int i :: .ref a :: st) G := by
  obtain ⟨c0, n, f, he, hm, h⟩ := gAr_inv h
  try dsimp only at h
  split at h
  · next hi =>
    have k8 := k9 _ h
    exact ⟨k8.1, Z.bald hd ht he hm (gIn_in hi) k8.2⟩
  · cases h
theorem Y.zald {a ka t0 : Nat} {i : Int32} {kk : Int32 → gR} (hd : decode M.2.1 pc = .ok (.baload, 1)) (ht : V.2.2.2.1[t0]? = some (ka, .boolean)) (h : gLd G a ka i kk = some (o, Gf)) (k9 : ∀ v : Int32, kk v = some (o, Gf) → Y V M fr o Gf (pc + 1) L (.int v :: st) G) : Y V M fr o Gf pc L (.int i :: .ref a :: st) G := by
  obtain ⟨c0, n, f, he, hm, h⟩ := gAr_inv h
  try dsimp only at h
  split at h
  · next hi =>
    have k8 := k9 _ h
    exact ⟨k8.1, Z.zald hd ht he hm (gIn_in hi) k8.2⟩
  · cases h
theorem Y.iast {a ka t0 : Nat} {i x : Int32} {kk : gH → gR} (hd : decode M.2.1 pc = .ok (.iastore, 1)) (ht : V.2.2.2.1[t0]? = some (ka, .int)) (hka : ka < 1000) (h : gSt G a ka i x kk = some (o, Gf)) (k9 : ∀ G' : gH, G'.1 = G.1 → G'.2.1 = G.2.1 → kk G' = some (o, Gf) → Y V M fr o Gf (pc + 1) L st G') : Y V M fr o Gf pc L (.int x :: .int i :: .ref a :: st) G := by
  obtain ⟨n, f, he, h⟩ := gArW_inv h
  try dsimp only at h
  split at h
  · next hi =>
    have k8 := k9 (gUp G a (zI ka n (upd f i.toNatClampNeg x))) rfl rfl h
    exact ⟨k8.1, Z.iast hd ht hka he (gIn_in hi) k8.2⟩
  · cases h
theorem Y.bast {a ka t0 : Nat} {i x : Int32} {kk : gH → gR} (hd : decode M.2.1 pc = .ok (.bastore, 1)) (ht : V.2.2.2.1[t0]? = some (ka, .byte)) (hka : ka < 1000) (h : gSt G a ka i (vp_nar .byte x) kk = some (o, Gf)) (k9 : ∀ G' : gH, G'.1 = G.1 → G'.2.1 = G.2.1 → kk G' = some (o, Gf) → Y V M fr o Gf (pc + 1) L st G') : Y V M fr o Gf pc L (.int x :: .int i :: .ref a :: st) G := by
  obtain ⟨n, f, he, h⟩ := gArW_inv h
  try dsimp only at h
  split at h
  · next hi =>
    have k8 := k9 (gUp G a (zI ka n (upd f i.toNatClampNeg (vp_nar .byte x)))) rfl rfl h
    exact ⟨k8.1, Z.bast hd ht hka he (gIn_in hi) k8.2⟩
  · cases h
theorem Y.zast {a ka t0 : Nat} {i x : Int32} {kk : gH → gR} (hd : decode M.2.1 pc = .ok (.bastore, 1)) (ht : V.2.2.2.1[t0]? = some (ka, .boolean)) (hka : ka < 1000) (h : gSt G a ka i (vp_nar .boolean x) kk = some (o, Gf)) (k9 : ∀ G' : gH, G'.1 = G.1 → G'.2.1 = G.2.1 → kk G' = some (o, Gf) → Y V M fr o Gf (pc + 1) L st G') : Y V M fr o Gf pc L (.int x :: .int i :: .ref a :: st) G := by
  obtain ⟨n, f, he, h⟩ := gArW_inv h
  try dsimp only at h
  split at h
  · next hi =>
    have k8 := k9 (gUp G a (zI ka n (upd f i.toNatClampNeg (vp_nar .boolean x)))) rfl rfl h
    exact ⟨k8.1, Z.zast hd ht hka he (gIn_in hi) k8.2⟩
  · cases h
theorem Y.alen {a ka t0 : Nat} {ty : FieldType} {kk : Int32 → gR} (hd : decode M.2.1 pc = .ok (.arraylength, 1)) (ht : V.2.2.2.1[t0]? = some (ka, ty)) (h : gLen G a ka kk = some (o, Gf)) (k9 : ∀ v : Int32, kk v = some (o, Gf) → Y V M fr o Gf (pc + 1) L (.int v :: st) G) : Y V M fr o Gf pc L (.ref a :: st) G := by
  obtain ⟨c0, n, f, he, hm, h⟩ := gAr_inv h
  have k8 := k9 _ h
  exact ⟨k8.1, Z.alen hd ht he hm rfl k8.2⟩
theorem Y.alenq {a ka t0 : Nat} {ty : FieldType} {kk : Int32 → gR} (hd : decode M.2.1 pc = .ok (.arraylength, 1)) (ht : V.2.2.2.1[t0]? = some (ka, ty)) (h : gLenq G a ka kk = some (o, Gf)) (k9 : ∀ v : Int32, kk v = some (o, Gf) → Y V M fr o Gf (pc + 1) L (.int v :: st) G) : Y V M fr o Gf pc L (.ref a :: st) G := by
  obtain ⟨c0, n, f, he, hm, h⟩ := gAq_inv h
  have k8 := k9 _ h
  exact ⟨k8.1, Z.alen hd ht he hm rfl k8.2⟩
theorem Y.aald {a ka t0 : Nat} {C1 : String} {i : Int32} {k0 : gR} {k1 : Nat → gR} (hd : decode M.2.1 pc = .ok (.aaload, 1)) (ht : V.2.2.2.1[t0]? = some (ka, .object C1)) (h : gLdq G a ka i k0 k1 = some (o, Gf)) (kn : k0 = some (o, Gf) → Y V M fr o Gf (pc + 1) L (.null :: st) G) (kr : ∀ b : Nat, k1 b = some (o, Gf) → Y V M fr o Gf (pc + 1) L (.ref b :: st) G) : Y V M fr o Gf pc L (.int i :: .ref a :: st) G := by
  obtain ⟨c0, n, f, he, hm, h⟩ := gAq_inv h
  try dsimp only at h
  split at h
  · next hi =>
    split at h
    · next hf =>
      have k8 := kn h
      refine ⟨k8.1, Z.aald hd ht he hm (gIn_in hi) ?_⟩
      rw [hf]
      exact k8.2
    · next b hf =>
      have k8 := kr b h
      refine ⟨k8.1, Z.aald hd ht he hm (gIn_in hi) ?_⟩
      rw [hf]
      exact k8.2
  · cases h
theorem Y.aastN {a ka t0 : Nat} {C1 : String} {i : Int32} {kk : gH → gR} (hd : decode M.2.1 pc = .ok (.aastore, 1)) (ht : V.2.2.2.1[t0]? = some (ka, .object C1)) (hka : ka < 1000) (h : gStN G a ka i kk = some (o, Gf)) (k9 : ∀ G' : gH, G'.1 = G.1 → G'.2.1 = G.2.1 → kk G' = some (o, Gf) → Y V M fr o Gf (pc + 1) L st G') : Y V M fr o Gf pc L (.null :: .int i :: .ref a :: st) G := by
  obtain ⟨n, f, he, h⟩ := gAqW_inv h
  try dsimp only at h
  split at h
  · next hi =>
    have k8 := k9 (gUp G a (zQ ka n (va_up f i.toNatClampNeg none))) rfl rfl h
    exact ⟨k8.1, Z.aastN hd ht hka he (gIn_in hi) k8.2⟩
  · cases h
theorem Y.aast {a b ka t0 ci : Nat} {r : vw_C} {i : Int32} {kk : gH → gR} (hd : decode M.2.1 pc = .ok (.aastore, 1)) (ht : V.2.2.2.1[t0]? = some (ka, .object r.1)) (hc : V.2.2.1[ci]? = some r) (hka : ka < 1000) (h : gStq G a ka ci i b kk = some (o, Gf)) (k9 : ∀ G' : gH, G'.1 = G.1 → G'.2.1 = G.2.1 → kk G' = some (o, Gf) → Y V M fr o Gf (pc + 1) L st G') : Y V M fr o Gf pc L (.ref b :: .int i :: .ref a :: st) G := by
  obtain ⟨n, f, he, h⟩ := gAqW_inv h
  try dsimp only at h
  split at h
  · next hi =>
    obtain ⟨c0, vs, hb, hm, h⟩ := gOb_inv h
    have k8 := k9 (gUp G a (zQ ka n (va_up f i.toNatClampNeg (some b)))) rfl rfl h
    exact ⟨k8.1, Z.aast hd ht hc hka hb hm he (gIn_in hi) k8.2⟩
  · cases h
theorem Y.aastC {a b ka t0 ci : Nat} {E : String} {r : vw_C} {i : Int32} {kk : gH → gR} (hd : decode M.2.1 pc = .ok (.aastore, 1)) (ht : V.2.2.2.1[t0]? = some (ka, .object E)) (hc : V.2.2.1[ci]? = some r) (hca : Cond.castable r.1 E ∈ zT) (hka : ka < 1000) (h : gStq G a ka ci i b kk = some (o, Gf)) (k9 : ∀ G' : gH, G'.1 = G.1 → G'.2.1 = G.2.1 → kk G' = some (o, Gf) → Y V M fr o Gf (pc + 1) L st G') : Y V M fr o Gf pc L (.ref b :: .int i :: .ref a :: st) G := by
  obtain ⟨n, f, he, h⟩ := gAqW_inv h
  try dsimp only at h
  split at h
  · next hi =>
    obtain ⟨c0, vs, hb, hm, h⟩ := gOb_inv h
    have k8 := k9 (gUp G a (zQ ka n (va_up f i.toNatClampNeg (some b)))) rfl rfl h
    exact ⟨k8.1, Z.aastC hd ht hc hca hka hb hm he (gIn_in hi) k8.2⟩
  · cases h
theorem Y.aastA {a b ka kb t0 t1 : Nat} {E nm : String} {ty1 : FieldType} {i : Int32} {kk : gH → gR} (hd : decode M.2.1 pc = .ok (.aastore, 1)) (ht : V.2.2.2.1[t0]? = some (ka, .object E)) (ht1 : V.2.2.2.1[t1]? = some (kb, ty1)) (hnm : "[" ++ ty1.toString = nm) (hca : Cond.castable nm E ∈ zT) (hka : ka < 1000) (h : gStA G a ka kb i b kk = some (o, Gf)) (k9 : ∀ G' : gH, G'.1 = G.1 → G'.2.1 = G.2.1 → kk G' = some (o, Gf) → Y V M fr o Gf (pc + 1) L st G') : Y V M fr o Gf pc L (.ref b :: .int i :: .ref a :: st) G := by
  obtain ⟨n, f, he, h⟩ := gAqW_inv h
  try dsimp only at h
  split at h
  · next hi =>
    obtain ⟨c0, n9, f9, hb, hm, h⟩ := gAr_inv h
    have k8 := k9 (gUp G a (zQ ka n (va_up f i.toNatClampNeg (some b)))) rfl rfl h
    exact ⟨k8.1, Z.aastA hd ht ht1 hnm hca hka hb hm he (gIn_in hi) k8.2⟩
  · cases h
theorem Y.castO {a ci idx : Nat} {r : vw_C} {k : gR} (hd : decode M.2.1 pc = .ok (.checkcast idx, 3)) (hrc : V.2.2.1[ci]? = some r) (hlk : Cond.classLink M.1.cls idx r.1 ∈ zT) (h : gCaO G a ci k = some (o, Gf)) (kk : k = some (o, Gf) → Y V M fr o Gf (pc + 3) L (.ref a :: st) G) : Y V M fr o Gf pc L (.ref a :: st) G := by
  obtain ⟨c0, vs, hb, hm, h⟩ := gOb_inv h
  have k8 := kk h
  exact ⟨k8.1, Z.castO hd hrc hlk hb hm k8.2⟩
theorem Y.castA {a ka t0 idx : Nat} {nm : String} {ty : FieldType} {k : gR} (hd : decode M.2.1 pc = .ok (.checkcast idx, 3)) (ht : V.2.2.2.1[t0]? = some (ka, ty)) (hnm : "[" ++ ty.toString = nm) (hlk : Cond.classLink M.1.cls idx nm ∈ zT) (h : gCaA G a ka k = some (o, Gf)) (kk : k = some (o, Gf) → Y V M fr o Gf (pc + 3) L (.ref a :: st) G) : Y V M fr o Gf pc L (.ref a :: st) G := by
  obtain ⟨c0, n, f, hb, hm, h⟩ := gAr_inv h
  have k8 := kk h
  exact ⟨k8.1, Z.castA hd ht hnm hlk hb hm k8.2⟩
theorem Y.castQ {a ka t0 idx : Nat} {nm : String} {ty : FieldType} {k : gR} (hd : decode M.2.1 pc = .ok (.checkcast idx, 3)) (ht : V.2.2.2.1[t0]? = some (ka, ty)) (hnm : "[" ++ ty.toString = nm) (hlk : Cond.classLink M.1.cls idx nm ∈ zT) (h : gCaQ G a ka k = some (o, Gf)) (kk : k = some (o, Gf) → Y V M fr o Gf (pc + 3) L (.ref a :: st) G) : Y V M fr o Gf pc L (.ref a :: st) G := by
  obtain ⟨c0, n, f, hb, hm, h⟩ := gAq_inv h
  have k8 := kk h
  exact ⟨k8.1, Z.castA hd ht hnm hlk hb hm k8.2⟩
theorem Y.new {ci N idx : Nat} {fs : List Value} {kk : Nat → gH → gR} (hn : zNc V.2.2.1 M.1.cls idx ci N) (hci : ci < 1000) (hfs : zBlank V.2.2.1 ci fs) (hd : decode M.2.1 pc = .ok (.new idx, 3)) (h : gNewO G ci N fs kk = some (o, Gf)) (k9 : ∀ (a : Nat) (G' : gH), kk a G' = some (o, Gf) → Y V M fr o Gf (pc + 3) L (.ref a :: st) G') : Y V M fr o Gf pc L st G := by
  have k8 := k9 _ _ h
  obtain ⟨⟨g1, g2⟩, k8⟩ := k8
  have e1 : (gNew G N (.inr (ci, fs))).2.1 = G.2.1 + 1 := rfl
  have e2 : (gNew G N (.inr (ci, fs))).1 = G.1 + N := rfl
  rw [e1] at g1 k8
  rw [e2] at g2 k8
  refine ⟨⟨by omega, by omega⟩, ?_⟩
  have k7 := Z.new hn hci hfs hd k8
  rw [show Gf.2.1 - (G.2.1 + 1) + 1 = Gf.2.1 - G.2.1 by omega, show Gf.1 - (G.1 + N) + N = Gf.1 - G.1 by omega] at k7
  exact k7
theorem Y.newa {at_ : ArrayType} {ka t0 : Nat} {n : Int32} {kk : Nat → gH → gR} (hw : Cond.arrayClass (newarray.typeOf at_) ∈ zT) (ht : V.2.2.2.1[t0]? = some (ka, newarray.typeOf at_)) (hka : ka < 1000) (hdef : defaultValue (newarray.typeOf at_) = .int 0) (hb : componentBytes (newarray.typeOf at_) ≤ 8) (hd : decode M.2.1 pc = .ok (.newarray at_, 2)) (h : gNewA G ka n kk = some (o, Gf)) (k9 : ∀ (a : Nat) (G' : gH), kk a G' = some (o, Gf) → Y V M fr o Gf (pc + 2) L (.ref a :: st) G') : Y V M fr o Gf pc L (.int n :: st) G := by
  unfold gNewA at h
  split at h
  · next hc =>
    have k8 := k9 _ _ h
    obtain ⟨⟨g1, g2⟩, k8⟩ := k8
    have e1 : (gNew G n.toNatClampNeg (zI ka n.toNatClampNeg (fun _ => 0))).2.1 = G.2.1 + 1 := rfl
    have e2 : (gNew G n.toNatClampNeg (zI ka n.toNatClampNeg (fun _ => 0))).1 = G.1 + n.toNatClampNeg := rfl
    rw [e1] at g1 k8
    rw [e2] at g2 k8
    refine ⟨⟨by omega, by omega⟩, ?_⟩
    have k7 := Z.newa hw ht hka hdef hb hd hc.1 rfl hc.2 k8
    rw [show Gf.2.1 - (G.2.1 + 1) + 1 = Gf.2.1 - G.2.1 by omega, show Gf.1 - (G.1 + n.toNatClampNeg) + n.toNatClampNeg = Gf.1 - G.1 by omega] at k7
    exact k7
  · cases h
theorem Y.newq {ka t0 idx : Nat} {C1 : String} {n : Int32} {kk : Nat → gH → gR} (hw : Cond.arrayOver (.object C1) ∈ zT) (hlk : Cond.classLink M.1.cls idx C1 ∈ zT) (ht : V.2.2.2.1[t0]? = some (ka, .object C1)) (hka : ka < 1000) (hd : decode M.2.1 pc = .ok (.anewarray idx, 3)) (h : gNewQ G ka n kk = some (o, Gf)) (k9 : ∀ (a : Nat) (G' : gH), kk a G' = some (o, Gf) → Y V M fr o Gf (pc + 3) L (.ref a :: st) G') : Y V M fr o Gf pc L (.int n :: st) G := by
  unfold gNewQ at h
  split at h
  · next hc =>
    have k8 := k9 _ _ h
    obtain ⟨⟨g1, g2⟩, k8⟩ := k8
    have e1 : (gNew G n.toNatClampNeg (zQ ka n.toNatClampNeg (fun _ => none))).2.1 = G.2.1 + 1 := rfl
    have e2 : (gNew G n.toNatClampNeg (zQ ka n.toNatClampNeg (fun _ => none))).1 = G.1 + n.toNatClampNeg := rfl
    rw [e1] at g1 k8
    rw [e2] at g2 k8
    refine ⟨⟨by omega, by omega⟩, ?_⟩
    have k7 := Z.newq hw hlk ht hka hd hc.1 rfl hc.2 k8
    rw [show Gf.2.1 - (G.2.1 + 1) + 1 = Gf.2.1 - G.2.1 by omega, show Gf.1 - (G.1 + n.toNatClampNeg) + n.toNatClampNeg = Gf.1 - G.1 by omega] at k7
    exact k7
  · cases h
theorem Y.iret {v : Int32} (hr : M.2.2.2 = some .int) (hd : decode M.2.1 pc = .ok (.ireturn, 1)) (h : rI v G = some (o, Gf)) : Y V M fr o Gf pc L [.int v] G := by
  obtain ⟨rfl, rfl⟩ := Prod.mk.inj (Option.some.inj h)
  refine ⟨gLe.rfl', Z.room (Nat.le_refl _) (Nat.zero_le _) (Nat.zero_le _) (Z.iret (st := []) (mc := 0) (ms := 0) hr rfl hd ⟨rfl, rfl⟩)⟩
theorem Y.zret {v : Int32} (hr : M.2.2.2 = some .boolean) (hd : decode M.2.1 pc = .ok (.ireturn, 1)) (h : rZ v G = some (o, Gf)) : Y V M fr o Gf pc L [.int v] G := by
  unfold rZ at h
  split at h
  · next hv =>
    obtain ⟨rfl, rfl⟩ := Prod.mk.inj (Option.some.inj h)
    exact ⟨gLe.rfl', Z.room (Nat.le_refl _) (Nat.zero_le _) (Nat.zero_le _) (Z.iret (st := []) (mc := 0) (ms := 0) hr (by rcases hv with rfl | rfl <;> rfl) hd ⟨rfl, rfl⟩)⟩
  · cases h
theorem Y.iret1 {v : Int32} {ty : FieldType} (hr : M.2.2.2 = some ty) (hn : narrow ty (.int v) = .int v) (hd : decode M.2.1 pc = .ok (.ireturn, 1)) (h : rI v G = some (o, Gf)) : Y V M fr o Gf pc L [.int v] G := by
  obtain ⟨rfl, rfl⟩ := Prod.mk.inj (Option.some.inj h)
  refine ⟨gLe.rfl', Z.room (Nat.le_refl _) (Nat.zero_le _) (Nat.zero_le _) (Z.iret (st := []) (mc := 0) (ms := 0) hr hn hd ⟨rfl, rfl⟩)⟩
theorem Y.lret {v : Int64} (hr : M.2.2.2 = some .long) (hd : decode M.2.1 pc = .ok (.lreturn, 1)) (h : rL v G = some (o, Gf)) : Y V M fr o Gf pc L [.long v] G := by
  obtain ⟨rfl, rfl⟩ := Prod.mk.inj (Option.some.inj h)
  refine ⟨gLe.rfl', Z.room (Nat.le_refl _) (Nat.zero_le _) (Nat.zero_le _) (Z.lret (st := []) (mc := 0) (ms := 0) hr hd ⟨rfl, rfl⟩)⟩
theorem Y.aret {a : Nat} {rt : FieldType} (hr : M.2.2.2 = some rt) (hrt : (∃ n, rt = .object n) ∨ ∃ t, rt = .array t) (hd : decode M.2.1 pc = .ok (.areturn, 1)) (h : rA a G = some (o, Gf)) : Y V M fr o Gf pc L [.ref a] G := by
  obtain ⟨rfl, rfl⟩ := Prod.mk.inj (Option.some.inj h)
  refine ⟨gLe.rfl', Z.room (Nat.le_refl _) (Nat.zero_le _) (Nat.zero_le _) (Z.aret (st := []) (mc := 0) (ms := 0) hr hrt (Or.inr ⟨a, rfl⟩) hd ⟨rfl, rfl⟩)⟩
theorem Y.vret  (hr : M.2.2.2 = none) (hd : decode M.2.1 pc = .ok (.return_, 1)) (h : rV G = some (o, Gf)) : Y V M fr o Gf pc L [] G := by
  obtain ⟨rfl, rfl⟩ := Prod.mk.inj (Option.some.inj h)
  refine ⟨gLe.rfl', Z.room (Nat.le_refl _) (Nat.zero_le _) (Nat.zero_le _) (Z.vret (st := []) (mc := 0) (ms := 0) hr hd ⟨rfl, rfl⟩)⟩
theorem b_inv {x : gR} {k : Option Value → gH → gR} (P : gR) (hP : P = match x with
  | some (.inr v, G) => k v G
  | some (.inl E, G) => some (.inl E, G)
  | none => none) (h : P = some (o, Gf)) : (∃ v G1, x = some (.inr v, G1) ∧ k v G1 = some (o, Gf)) ∨ (∃ E, o = .inl E ∧ x = some (.inl E, Gf)) := by
  rw [hP] at h
  match x, h with
  | some (.inr v, G1), h => exact Or.inl ⟨v, G1, rfl, h⟩
  | some (.inl E, G1), h =>
    obtain ⟨rfl, rfl⟩ := Prod.mk.inj (Option.some.inj h)
    exact Or.inr ⟨E, rfl, rfl⟩
theorem bI_eq (x : gR) (k : Int32 → gH → gR) : bI x k = match x with
  | some (.inr v, G) => (match v with | some (.int w) => k w G | _ => none)
  | some (.inl E, G) => some (.inl E, G)
  | none => none := by
  match x with
  | none => rfl
  | some (.inl E, G) => rfl
  | some (.inr none, G) => rfl
  | some (.inr (some v), G) => cases v <;> rfl
theorem bL_eq (x : gR) (k : Int64 → gH → gR) : bL x k = match x with
  | some (.inr v, G) => (match v with | some (.long w) => k w G | _ => none)
  | some (.inl E, G) => some (.inl E, G)
  | none => none := by
  match x with
  | none => rfl
  | some (.inl E, G) => rfl
  | some (.inr none, G) => rfl
  | some (.inr (some v), G) => cases v <;> rfl
theorem bA_eq (x : gR) (k : Nat → gH → gR) : bA x k = match x with
  | some (.inr v, G) => (match v with | some (.ref w) => k w G | _ => none)
  | some (.inl E, G) => some (.inl E, G)
  | none => none := by
  match x with
  | none => rfl
  | some (.inl E, G) => rfl
  | some (.inr none, G) => rfl
  | some (.inr (some v), G) => cases v <;> rfl
theorem bV_eq (x : gR) (k : gH → gR) : bV x k = match x with
  | some (.inr v, G) => (match v with | none => k G | _ => none)
  | some (.inl E, G) => some (.inl E, G)
  | none => none := by
  match x with
  | none => rfl
  | some (.inl E, G) => rfl
  | some (.inr none, G) => rfl
  | some (.inr (some v), G) => rfl
/-- what a call's rule has to bring: out of the callee's contract and what comes behind -/
def yCall (V : zV) (M : zM) (fr : Nat) (y : zM) (pc : Nat) (L : zLs) (st0 st : List Value) (G : zH) (As : List Value) (fr9 : Nat) : Prop :=
  ∀ (Q Qy : Option Value → zH → Prop) (QX Qyx : String → zH → Prop) (mc ms yc ys : Nat), zMet V y fr9 yc ys As G Qy Qyx → (∀ (E : String) (G' : zH), Qyx E G' → QX E G') → (∀ (v : Option Value) (G' : zH), Qy v G' → Z V M fr Q QX mc ms (pc + 3) L (v.toList ++ st) G') →
    Z V M fr Q QX (mc + yc) (ms + ys) pc L st0 G
theorem yCall_use {y : zM} {st0 As : List Value} {fr9 : Nat} {x : gR} (hc : yCall V M fr y pc L st0 st G.2 As fr9) (hm : gMet V y fr9 As G x)
    (h : (∃ v G1, x = some (.inr v, G1) ∧ Y V M fr o Gf (pc + 3) L (v.toList ++ st) G1) ∨ (∃ E, o = .inl E ∧ x = some (.inl E, Gf))) : Y V M fr o Gf pc L st0 G := by
  rcases h with ⟨v, G1, hx, ⟨g1, g2⟩, k⟩ | ⟨E, ho, hx⟩
  · obtain ⟨⟨g3, g4⟩, m⟩ := hm _ _ hx
    refine ⟨⟨by omega, by omega⟩, ?_⟩
    have k7 := hc (gQ o Gf) _ (gX o Gf) _ _ _ _ _ m (fun E G' hq => by cases hq.1) (fun v' G' hq => by
      obtain ⟨hq1, hq2⟩ := hq
      cases hq1
      subst hq2
      exact k)
    rw [show Gf.2.1 - G1.2.1 + (G1.2.1 - G.2.1) = Gf.2.1 - G.2.1 by omega, show Gf.1 - G1.1 + (G1.1 - G.1) = Gf.1 - G.1 by omega] at k7
    exact k7
  · obtain ⟨g, m⟩ := hm _ _ hx
    refine ⟨g, ?_⟩
    have k7 := hc (gQ o Gf) _ (gX o Gf) _ 0 0 _ _ m (fun E' G' hq => by
      obtain ⟨hq1, hq2⟩ := hq
      cases hq1
      exact ⟨ho, hq2⟩) (fun v' G' hq => by cases hq.1)
    rw [Nat.zero_add, Nat.zero_add] at k7
    exact k7
theorem Y.callI {y : zM} {st0 As : List Value} {fr9 : Nat} {x : gR} {kk : Int32 → gH → gR} (hc : yCall V M fr y pc L st0 st G.2 As fr9) (hm : gMet V y fr9 As G x) (h : bI x kk = some (o, Gf)) (k9 : ∀ (w : Int32) (G1 : gH), x = some (.inr (some (.int w)), G1) → kk w G1 = some (o, Gf) → Y V M fr o Gf (pc + 3) L (.int w :: st) G1) : Y V M fr o Gf pc L st0 G := by
  refine yCall_use hc hm ?_
  rcases b_inv _ (bI_eq x kk) h with ⟨v, G1, hx, hk⟩ | h
  · refine Or.inl ⟨v, G1, hx, ?_⟩
    split at hk
    · next w => exact k9 w G1 hx hk
    · cases hk
  · exact Or.inr h
theorem Y.callL {y : zM} {st0 As : List Value} {fr9 : Nat} {x : gR} {kk : Int64 → gH → gR} (hc : yCall V M fr y pc L st0 st G.2 As fr9) (hm : gMet V y fr9 As G x) (h : bL x kk = some (o, Gf)) (k9 : ∀ (w : Int64) (G1 : gH), x = some (.inr (some (.long w)), G1) → kk w G1 = some (o, Gf) → Y V M fr o Gf (pc + 3) L (.long w :: st) G1) : Y V M fr o Gf pc L st0 G := by
  refine yCall_use hc hm ?_
  rcases b_inv _ (bL_eq x kk) h with ⟨v, G1, hx, hk⟩ | h
  · refine Or.inl ⟨v, G1, hx, ?_⟩
    split at hk
    · next w => exact k9 w G1 hx hk
    · cases hk
  · exact Or.inr h
theorem Y.callA {y : zM} {st0 As : List Value} {fr9 : Nat} {x : gR} {kk : Nat → gH → gR} (hc : yCall V M fr y pc L st0 st G.2 As fr9) (hm : gMet V y fr9 As G x) (h : bA x kk = some (o, Gf)) (k9 : ∀ (w : Nat) (G1 : gH), x = some (.inr (some (.ref w)), G1) → kk w G1 = some (o, Gf) → Y V M fr o Gf (pc + 3) L (.ref w :: st) G1) : Y V M fr o Gf pc L st0 G := by
  refine yCall_use hc hm ?_
  rcases b_inv _ (bA_eq x kk) h with ⟨v, G1, hx, hk⟩ | h
  · refine Or.inl ⟨v, G1, hx, ?_⟩
    split at hk
    · next w => exact k9 w G1 hx hk
    · cases hk
  · exact Or.inr h
theorem Y.callN {y : zM} {st0 As : List Value} {fr9 : Nat} {x : gR} {kk : gH → gR} (hc : yCall V M fr y pc L st0 st G.2 As fr9) (hm : gMet V y fr9 As G x) (h : bV x kk = some (o, Gf)) (k9 : ∀ (G1 : gH), x = some (.inr none, G1) → kk G1 = some (o, Gf) → Y V M fr o Gf (pc + 3) L st G1) : Y V M fr o Gf pc L st0 G := by
  refine yCall_use hc hm ?_
  rcases b_inv _ (bV_eq x kk) h with ⟨v, G1, hx, hk⟩ | h
  · refine Or.inl ⟨v, G1, hx, ?_⟩
    split at hk
    · exact k9 G1 hx hk
    · cases hk
  · exact Or.inr h
theorem yC.Vi {y : zM} {n fr9 idx b c0 ci : Nat} {As : List Value} {r : vw_C} {fs : List Value} {H : zH} (hV : zOk V) (hc : zCb y n) (hlk : Cond.methodLink M.1.cls idx y.1 ∈ zT) (hin : Cond.instanceMethod y.1 ∈ zT) (hrc : V.2.2.1[ci]? = some r) (hsl : Cond.selects r.1 y.1 y.1 ∈ zT)
    (hd : decode M.2.1 pc = .ok (.invokevirtual idx, 3)) (hn : As.length = n) (hLl : L.length = M.2.2.1) (hcat : (st.map fun v => v.category).sum ≤ 8) (hf9 : fr9 + 1 ≤ fr) (hG : H.2 b = some (.inr (c0, fs))) (hcm : c0 % 1000 = ci) : yCall V M fr y pc L (As.reverse ++ .ref b :: st) st H (.ref b :: As) fr9 :=
  fun _ _ _ _ _ _ _ _ hy hx kk => Z.callV hV hy hc hlk hin hrc hsl hG hcm hd hn hLl hcat hf9 hx kk
theorem yC.S {y : zM} {n fr9 idx : Nat} {As : List Value} {H : zH} (hV : zOk V) (hc : zCb y n) (hlk : Cond.methodLink M.1.cls idx y.1 ∈ zT) (hst : Cond.static y.1 ∈ zT)
    (hd : decode M.2.1 pc = .ok (.invokestatic idx, 3)) (hn : As.length = n) (hLl : L.length = M.2.2.1) (hcat : (st.map fun v => v.category).sum ≤ 8) (hf9 : fr9 + 1 ≤ fr) : yCall V M fr y pc L (As.reverse ++ st) st H As fr9 :=
  fun _ _ _ _ _ _ _ _ hy hx kk => Z.callS hV hy hc hlk hst hd hn hLl hcat hf9 hx kk
theorem yC.SN {y : zM} {n fr9 idx : Nat} {As : List Value} {H : zH} {host : String} (hV : zOk V) (hc : zCb y n) (hlk : Cond.methodLinkNest M.1.cls idx y.1 host ∈ zT) (hst : Cond.static y.1 ∈ zT)
    (hd : decode M.2.1 pc = .ok (.invokestatic idx, 3)) (hn : As.length = n) (hLl : L.length = M.2.2.1) (hcat : (st.map fun v => v.category).sum ≤ 8) (hf9 : fr9 + 1 ≤ fr) : yCall V M fr y pc L (As.reverse ++ st) st H As fr9 :=
  fun _ _ _ _ _ _ _ _ hy hx kk => Z.callSN hV hy hc hlk hst hd hn hLl hcat hf9 hx kk
theorem yC.I {y : zM} {n fr9 idx b : Nat} {As : List Value} {H : zH} (hV : zOk V) (hc : zCb y n) (hlk : Cond.methodLink M.1.cls idx y.1 ∈ zT) (hin : Cond.instanceMethod y.1 ∈ zT) (hnm : y.1.name = "<init>") (hrt : y.2.2.2 = none)
    (hd : decode M.2.1 pc = .ok (.invokespecial idx, 3)) (hn : As.length = n) (hLl : L.length = M.2.2.1) (hcat : (st.map fun v => v.category).sum ≤ 8) (hf9 : fr9 + 1 ≤ fr) : yCall V M fr y pc L (As.reverse ++ .ref b :: st) st H (.ref b :: As) fr9 :=
  fun _ _ _ _ _ _ _ _ hy hx kk => Z.callI hV hy hc hlk hin hnm hrt hd hn hLl hcat hf9 hx kk
theorem yC.IN {y : zM} {n fr9 idx b : Nat} {As : List Value} {H : zH} {host : String} (hV : zOk V) (hc : zCb y n) (hlk : Cond.methodLinkNest M.1.cls idx y.1 host ∈ zT) (hin : Cond.instanceMethod y.1 ∈ zT) (hnm : y.1.name = "<init>") (hrt : y.2.2.2 = none)
    (hd : decode M.2.1 pc = .ok (.invokespecial idx, 3)) (hn : As.length = n) (hLl : L.length = M.2.2.1) (hcat : (st.map fun v => v.category).sum ≤ 8) (hf9 : fr9 + 1 ≤ fr) : yCall V M fr y pc L (As.reverse ++ .ref b :: st) st H (.ref b :: As) fr9 :=
  fun _ _ _ _ _ _ _ _ hy hx kk => Z.callIN hV hy hc hlk hin hnm hrt hd hn hLl hcat hf9 hx kk
theorem yC.SU {y : zM} {n fr9 idx b c0 ci : Nat} {As : List Value} {r : vw_C} {fs : List Value} {H : zH} (hV : zOk V) (hc : zCb y n) (hlk : Cond.methodLink M.1.cls idx y.1 ∈ zT) (hsm : Cond.sameMethod y.1.cls y.1.cls y.1.name y.1.desc ∈ zT) (hsu : Cond.superclass M.1.cls y.1.cls ∈ zT) (hin : Cond.instanceMethod y.1 ∈ zT) (hni : y.1.name ≠ "<init>") (hrc : V.2.2.1[ci]? = some r)
    (hd : decode M.2.1 pc = .ok (.invokespecial idx, 3)) (hn : As.length = n) (hLl : L.length = M.2.2.1) (hcat : (st.map fun v => v.category).sum ≤ 8) (hf9 : fr9 + 1 ≤ fr) (hG : H.2 b = some (.inr (c0, fs))) (hcm : c0 % 1000 = ci) : yCall V M fr y pc L (As.reverse ++ .ref b :: st) st H (.ref b :: As) fr9 :=
  fun _ _ _ _ _ _ _ _ hy hx kk => Z.callSU hV hy hc hlk hsm hsu hin hni hrc hG hcm hd hn hLl hcat hf9 hx kk
theorem Y.throwS {cls text : String} {names : List String} {ik is ic : Nat} (hV : zOk V) (hO : ∀ (U : State) (H : Heap), V.2.2.2.2.2 U H → vx_Zq Bundle.tN "UNASSIGNED_STACK" Bundle.steD (zA V) U H ∧ vx_Zq Bundle.tN "SUPPRESSED_SENTINEL" Bundle.listD (zA V) U H ∧ ∃ sa : Nat, vk_R M.1.cls is text sa U)
    (hcls : Bundle.fit cls = true) (hnames : ∀ n ∈ names, Bundle.fit n = true) (w1 : Cond.classLink M.1.cls ik cls ∈ zT) (w2 : Cond.initialized cls ∈ zT) (w3 : ∀ w ∈ vx_atS M.1.cls ic cls names, w ∈ zT) (hgood : ∀ w ∈ Cond.classLink M.1.cls ik cls :: Cond.initialized cls :: vx_atS M.1.cls ic cls names, vx_ot w = true)
    (hn : names.length ≤ 2) (hfr : 6 ≤ fr) (hLl : L.length = M.2.2.1) (hcat : (st.map fun v => v.category).sum ≤ 8)
    (d0 : decode M.2.1 pc = .ok (.new ik, 3)) (d3 : decode M.2.1 (pc + 3) = .ok (.dup, 1)) (d4 : decode M.2.1 (pc + 4) = .ok (.ldc is, 2)) (d6 : decode M.2.1 (pc + 6) = .ok (.invokespecial ic, 3)) (d9 : decode M.2.1 (pc + 9) = .ok (.athrow, 1))
    (h : gThrow cls G = some (o, Gf)) : Y V M fr o Gf pc L st G := by
  obtain ⟨rfl, rfl⟩ := Prod.mk.inj (Option.some.inj h)
  refine ⟨⟨Nat.le_add_right _ _, Nat.le_add_right _ _⟩, ?_⟩
  have k7 := Z.throwS (V := V) (M := M) (fr := fr) (Q := gQ (.inl cls) (G.1 + 6, (G.2.1 + 1, G.2.2))) (QX := gX (.inl cls) (G.1 + 6, (G.2.1 + 1, G.2.2))) (mc := 0) (ms := 0) (pc := pc) (L := L) (st := st) (G := G.2) hV hO hcls hnames w1 w2 w3 hgood hn hfr hLl hcat d0 d3 d4 d6 d9 (fun n hn9 => ⟨rfl, Nat.add_le_add_right hn9 1, rfl⟩)
  rw [show (G.2.1 + 1) - G.2.1 = 0 + 1 by omega, show (G.1 + 6) - G.1 = 0 + 6 by omega]
  exact k7
end YRules
end
section
/-! a code word, looked up and compared byte by byte -/
def lEqB : List UInt8 → List UInt8 → Bool
  | [], [] => true
  | a :: s, b :: t => Nat.beq a.toNat b.toNat && lEqB s t
  | _, _ => false
theorem lEqB_ok : ∀ (s t : List UInt8), lEqB s t = true → s = t
  | [], [], _ => rfl
  | a :: s, b :: t, h => by
    simp only [lEqB, Bool.and_eq_true] at h
    have h1 : a = b := UInt8.toNat_inj.mp (Nat.eq_of_beq_eq_true h.1)
    rw [h1, lEqB_ok s t h.2]
  | [], _ :: _, h => by cases h
  | _ :: _, [], h => by cases h
def bEqB (a b : ByteArray) : Bool := lEqB a.data.toList b.data.toList
theorem bEqB_ok {a b : ByteArray} (h : bEqB a b = true) : a = b := by
  cases a with
  | mk d =>
    cases b with
    | mk e =>
      cases d with
      | mk s =>
        cases e with
        | mk t =>
          have h1 : s = t := lEqB_ok s t h
          rw [h1]
def cChk (o : Option Cond) (n : MethodName) (b : ByteArray) (m : Nat) (r : Option FieldType) : Bool := match o with
  | some (.code n' b' m' r') => decide (n' = n) && bEqB b' b && decide (m' = m) && decide (r' = r)
  | _ => false
theorem cChk_ok {o : Option Cond} {n : MethodName} {b : ByteArray} {m : Nat} {r : Option FieldType} (h : cChk o n b m r = true) : o = some (.code n b m r) := by
  unfold cChk at h
  split at h
  · simp only [Bool.and_eq_true, decide_eq_true_eq] at h
    obtain ⟨⟨⟨h1, h2⟩, h3⟩, h4⟩ := h
    rw [h1, bEqB_ok h2, h3, h4]
  · cases h
def cChkW (o : Option Cond) (n : MethodName) (b : ByteArray) (m : Nat) (r : Option FieldType) (hh : List (Nat × Nat × Nat × Nat)) : Bool := match o with
  | some (.codeWith n' b' m' r' h') => decide (n' = n) && bEqB b' b && decide (m' = m) && decide (r' = r) && decide (h' = hh)
  | _ => false
theorem cChkW_ok {o : Option Cond} {n : MethodName} {b : ByteArray} {m : Nat} {r : Option FieldType} {hh : List (Nat × Nat × Nat × Nat)} (h : cChkW o n b m r hh = true) : o = some (.codeWith n b m r hh) := by
  unfold cChkW at h
  split at h
  · simp only [Bool.and_eq_true, decide_eq_true_eq] at h
    obtain ⟨⟨⟨⟨h1, h2⟩, h3⟩, h4⟩, h5⟩ := h
    rw [h1, bEqB_ok h2, h3, h4, h5]
  · cases h
/-! which words stay, constructor by constructor -/
theorem g_instanceMethod {x : MethodName} : zGood (.instanceMethod x) = true := rfl
theorem g_methodLink {a : String} {b : Nat} {x : MethodName} : zGood (.methodLink a b x) = true := rfl
theorem g_selects {a : String} {x y : MethodName} : zGood (.selects a x y) = true := rfl
theorem g_static {x : MethodName} : zGood (.static x) = true := rfl
theorem g_code {x : MethodName} {b : ByteArray} {m : Nat} {r : Option FieldType} : zGood (.code x b m r) = true := rfl
theorem g_codeWith {x : MethodName} {b : ByteArray} {m : Nat} {r : Option FieldType} {hh : List (Nat × Nat × Nat × Nat)} : zGood (.codeWith x b m r hh) = true := rfl
theorem g_initialized {a : String} : zGood (.initialized a) = true := rfl
theorem g_classLink {a : String} {b : Nat} {c : String} : zGood (.classLink a b c) = true := rfl
end
section
/-! a decoder over a list of bytes: one decision for a whole method -/
section LQ
variable {cc : ByteArray} {pc : Nat}
theorem q_nx {l : List UInt8} {p : Nat} {b : UInt8} {r : List UInt8} (h : l.drop p = b :: r) : l.drop (p + 1) = r := by
  rw [← List.tail_drop, h]
  rfl
theorem q_lt {b : UInt8} {r : List UInt8} (h : cc.data.toList.drop pc = b :: r) : pc < cc.size := by
  have h0 := congrArg List.length h
  rw [List.length_drop, List.length_cons] at h0
  show pc < cc.data.toList.length
  omega
theorem q_at {b : UInt8} {r : List UInt8} (h : cc.data.toList.drop pc = b :: r) (hl : pc < cc.size) : cc[pc]'hl = b := by
  have h1 : cc.data.toList.drop pc = cc.data.toList[pc]'hl :: cc.data.toList.drop (pc + 1) := List.drop_eq_getElem_cons hl
  rw [h] at h1
  exact (List.cons.inj h1).1.symm
theorem q_u1 {b : UInt8} {r : List UInt8} (h : cc.data.toList.drop pc = b :: r) : (Reader.u1 : Decoder Nat) cc pc = .ok (b.toNat, pc + 1) := by
  have hl := q_lt h
  have hb := q_at h hl
  show (if h9 : pc < cc.size then (do set (pc + 1); pure (cc[pc]'h9).toNat : Decoder Nat) else throw (HasTruncated.truncated pc)) cc pc = _
  rw [dif_pos hl, hb]
  rfl
theorem q_bind {α β : Type} {r : Decoder α} {f : α → Decoder β} {A : ByteArray} {p s : Nat} {a : α} (h : r A p = .ok (a, s)) : (r >>= f) A p = f a A s := by
  show (do let (a, s) ← r A p; f a A s : Except DecodeError (β × Nat)) = _
  rw [h]
  rfl
theorem q_map {α β : Type} {r : Decoder α} {g : α → β} {A : ByteArray} {p s : Nat} {a : α} (h : r A p = .ok (a, s)) : (g <$> r) A p = .ok (g a, s) := by
  show (do let (a, s) ← r A p; .ok (g a, s) : Except DecodeError (β × Nat)) = _
  rw [h]
  rfl
theorem q_u2 {x y : UInt8} {t : List UInt8} (h : cc.data.toList.drop pc = x :: y :: t) : (Reader.u2 : Decoder Nat) cc pc = .ok (x.toNat * 256 + y.toNat, pc + 2) :=
  (q_bind (q_u1 h)).trans ((q_bind (q_u1 (q_nx h))).trans rfl)
theorem q_s2 {x y : UInt8} {t : List UInt8} (h : cc.data.toList.drop pc = x :: y :: t) : (Reader.s2 : Decoder Int) cc pc = .ok (Reader.signed 16 (x.toNat * 256 + y.toNat), pc + 2) := q_map (q_u2 h)
theorem q_dec {i : Instr} {n : Nat} (h : (Decoder.instr pc) cc pc = .ok (i, pc + n)) : decode cc pc = .ok (i, n) := by
  show (do let (a, s) ← (Decoder.instr pc) cc pc; pure (a, s - pc) : Except DecodeError (Instr × Nat)) = _
  rw [h]
  show Except.ok (i, pc + n - pc) = _
  rw [Nat.add_sub_cancel_left]
theorem q_s1 {x : UInt8} {t : List UInt8} (h : cc.data.toList.drop pc = x :: t) : (Reader.s1 : Decoder Int) cc pc = .ok (Reader.signed 8 x.toNat, pc + 1) := q_map (q_u1 h)
def lF1 (f : Nat → Instr) : List UInt8 → Option (Instr × Nat)
  | x :: _ => some (f x.toNat, 2)
  | [] => none
def lF2 (f : Nat → Instr) : List UInt8 → Option (Instr × Nat)
  | x :: y :: _ => some (f (x.toNat * 256 + y.toNat), 3)
  | _ => none
def lF3 (f : Int → Instr) : List UInt8 → Option (Instr × Nat)
  | x :: y :: _ => some (f (Reader.signed 16 (x.toNat * 256 + y.toNat)), 3)
  | _ => none
theorem lF1_inv {f : Nat → Instr} {r : List UInt8} {z : Instr × Nat} (h : lF1 f r = some z) : ∃ x t, r = x :: t ∧ z = (f x.toNat, 2) := by
  cases r with
  | nil => cases h
  | cons x t => exact ⟨x, t, rfl, (Option.some.inj h).symm⟩
theorem lF2_inv {f : Nat → Instr} {r : List UInt8} {z : Instr × Nat} (h : lF2 f r = some z) : ∃ x y t, r = x :: y :: t ∧ z = (f (x.toNat * 256 + y.toNat), 3) := by
  cases r with
  | nil => cases h
  | cons x t =>
    cases t with
    | nil => cases h
    | cons y t => exact ⟨x, y, t, rfl, (Option.some.inj h).symm⟩
theorem lF3_inv {f : Int → Instr} {r : List UInt8} {z : Instr × Nat} (h : lF3 f r = some z) : ∃ x y t, r = x :: y :: t ∧ z = (f (Reader.signed 16 (x.toNat * 256 + y.toNat)), 3) := by
  cases r with
  | nil => cases h
  | cons x t =>
    cases t with
    | nil => cases h
    | cons y t => exact ⟨x, y, t, rfl, (Option.some.inj h).symm⟩
def lF4 (f : Int → Instr) : List UInt8 → Option (Instr × Nat)
  | x :: _ => some (f (Reader.signed 8 x.toNat), 2)
  | [] => none
def lF5 (f : Nat → Int → Instr) : List UInt8 → Option (Instr × Nat)
  | x :: y :: _ => some (f x.toNat (Reader.signed 8 y.toNat), 3)
  | _ => none
theorem lF4_inv {f : Int → Instr} {r : List UInt8} {z : Instr × Nat} (h : lF4 f r = some z) : ∃ x t, r = x :: t ∧ z = (f (Reader.signed 8 x.toNat), 2) := by
  cases r with
  | nil => cases h
  | cons x t => exact ⟨x, t, rfl, (Option.some.inj h).symm⟩
theorem lF5_inv {f : Nat → Int → Instr} {r : List UInt8} {z : Instr × Nat} (h : lF5 f r = some z) : ∃ x y t, r = x :: y :: t ∧ z = (f x.toNat (Reader.signed 8 y.toNat), 3) := by
  cases r with
  | nil => cases h
  | cons x t =>
    cases t with
    | nil => cases h
    | cons y t => exact ⟨x, y, t, rfl, (Option.some.inj h).symm⟩
def lG8 (op : Nat) (r : List UInt8) : Option (Instr × Nat) :=
  if op = 97 then some (.ladd, 1)
  else if op = 148 then some (.lcmp, 1)
  else if op = 146 then some (.i2c, 1)
  else if op = 157 then lF3 (fun n => .ifCond .gt n) r
  else if op = 165 then lF3 (fun n => .if_acmp .eq n) r
  else if op = 166 then lF3 (fun n => .if_acmp .ne n) r
  else if op = 136 then some (.l2i, 1)
  else none
theorem lG8_ok {op : Nat} {b : UInt8} {r : List UInt8} {z : Instr × Nat} (hb : cc.data.toList.drop pc = b :: r) (e : (Reader.u1 : Decoder Nat) cc pc = .ok (op, pc + 1)) (h : lG8 op r = some z) : decode cc pc = .ok z := by
  unfold lG8 at h
  by_cases c : op = 97
  · subst c; rw [if_pos rfl] at h; cases h; exact q_dec ((q_bind e).trans rfl)
  rw [if_neg c] at h; clear c
  by_cases c : op = 148
  · subst c; rw [if_pos rfl] at h; cases h; exact q_dec ((q_bind e).trans rfl)
  rw [if_neg c] at h; clear c
  by_cases c : op = 146
  · subst c; rw [if_pos rfl] at h; cases h; exact q_dec ((q_bind e).trans rfl)
  rw [if_neg c] at h; clear c
  by_cases c : op = 157
  · subst c; rw [if_pos rfl] at h; obtain ⟨x, y, t, rfl, rfl⟩ := lF3_inv h; exact q_dec ((q_bind e).trans ((q_bind (q_s2 (q_nx hb))).trans rfl))
  rw [if_neg c] at h; clear c
  by_cases c : op = 165
  · subst c; rw [if_pos rfl] at h; obtain ⟨x, y, t, rfl, rfl⟩ := lF3_inv h; exact q_dec ((q_bind e).trans ((q_bind (q_s2 (q_nx hb))).trans rfl))
  rw [if_neg c] at h; clear c
  by_cases c : op = 166
  · subst c; rw [if_pos rfl] at h; obtain ⟨x, y, t, rfl, rfl⟩ := lF3_inv h; exact q_dec ((q_bind e).trans ((q_bind (q_s2 (q_nx hb))).trans rfl))
  rw [if_neg c] at h; clear c
  by_cases c : op = 136
  · subst c; rw [if_pos rfl] at h; cases h; exact q_dec ((q_bind e).trans rfl)
  rw [if_neg c] at h; clear c
  cases h
def lG7 (op : Nat) (r : List UInt8) : Option (Instr × Nat) :=
  if op = 90 then some (.dup_x1, 1)
  else if op = 145 then some (.i2b, 1)
  else if op = 1 then some (.aconst_null, 1)
  else if op = 20 then lF2 (fun n => .ldc2_w n) r
  else if op = 189 then lF2 (fun n => .anewarray n) r
  else if op = 130 then some (.ixor, 1)
  else if op = 92 then some (.dup2, 1)
  else if op = 76 then some (.astore_n 1, 1)
  else if op = 88 then some (.pop2, 1)
  else if op = 30 then some (.lload_n 0, 1)
  else if op = 105 then some (.lmul, 1)
  else if op = 32 then some (.lload_n 2, 1)
  else lG8 op r
theorem lG7_ok {op : Nat} {b : UInt8} {r : List UInt8} {z : Instr × Nat} (hb : cc.data.toList.drop pc = b :: r) (e : (Reader.u1 : Decoder Nat) cc pc = .ok (op, pc + 1)) (h : lG7 op r = some z) : decode cc pc = .ok z := by
  unfold lG7 at h
  by_cases c : op = 90
  · subst c; rw [if_pos rfl] at h; cases h; exact q_dec ((q_bind e).trans rfl)
  rw [if_neg c] at h; clear c
  by_cases c : op = 145
  · subst c; rw [if_pos rfl] at h; cases h; exact q_dec ((q_bind e).trans rfl)
  rw [if_neg c] at h; clear c
  by_cases c : op = 1
  · subst c; rw [if_pos rfl] at h; cases h; exact q_dec ((q_bind e).trans rfl)
  rw [if_neg c] at h; clear c
  by_cases c : op = 20
  · subst c; rw [if_pos rfl] at h; obtain ⟨x, y, t, rfl, rfl⟩ := lF2_inv h; exact q_dec ((q_bind e).trans ((q_bind (q_u2 (q_nx hb))).trans rfl))
  rw [if_neg c] at h; clear c
  by_cases c : op = 189
  · subst c; rw [if_pos rfl] at h; obtain ⟨x, y, t, rfl, rfl⟩ := lF2_inv h; exact q_dec ((q_bind e).trans ((q_bind (q_u2 (q_nx hb))).trans rfl))
  rw [if_neg c] at h; clear c
  by_cases c : op = 130
  · subst c; rw [if_pos rfl] at h; cases h; exact q_dec ((q_bind e).trans rfl)
  rw [if_neg c] at h; clear c
  by_cases c : op = 92
  · subst c; rw [if_pos rfl] at h; cases h; exact q_dec ((q_bind e).trans rfl)
  rw [if_neg c] at h; clear c
  by_cases c : op = 76
  · subst c; rw [if_pos rfl] at h; cases h; exact q_dec ((q_bind e).trans rfl)
  rw [if_neg c] at h; clear c
  by_cases c : op = 88
  · subst c; rw [if_pos rfl] at h; cases h; exact q_dec ((q_bind e).trans rfl)
  rw [if_neg c] at h; clear c
  by_cases c : op = 30
  · subst c; rw [if_pos rfl] at h; cases h; exact q_dec ((q_bind e).trans rfl)
  rw [if_neg c] at h; clear c
  by_cases c : op = 105
  · subst c; rw [if_pos rfl] at h; cases h; exact q_dec ((q_bind e).trans rfl)
  rw [if_neg c] at h; clear c
  by_cases c : op = 32
  · subst c; rw [if_pos rfl] at h; cases h; exact q_dec ((q_bind e).trans rfl)
  rw [if_neg c] at h; clear c
  exact lG8_ok hb e h
def lG6 (op : Nat) (r : List UInt8) : Option (Instr × Nat) :=
  if op = 10 then some (.lconst 1, 1)
  else if op = 9 then some (.lconst 0, 1)
  else if op = 199 then lF3 (fun n => .ifnonnull n) r
  else if op = 198 then lF3 (fun n => .ifnull n) r
  else if op = 116 then some (.ineg, 1)
  else if op = 104 then some (.imul, 1)
  else if op = 128 then some (.ior, 1)
  else if op = 83 then some (.aastore, 1)
  else if op = 124 then some (.iushr, 1)
  else if op = 173 then some (.lreturn, 1)
  else if op = 17 then lF3 (fun n => .sipush n) r
  else if op = 108 then some (.idiv, 1)
  else lG7 op r
theorem lG6_ok {op : Nat} {b : UInt8} {r : List UInt8} {z : Instr × Nat} (hb : cc.data.toList.drop pc = b :: r) (e : (Reader.u1 : Decoder Nat) cc pc = .ok (op, pc + 1)) (h : lG6 op r = some z) : decode cc pc = .ok z := by
  unfold lG6 at h
  by_cases c : op = 10
  · subst c; rw [if_pos rfl] at h; cases h; exact q_dec ((q_bind e).trans rfl)
  rw [if_neg c] at h; clear c
  by_cases c : op = 9
  · subst c; rw [if_pos rfl] at h; cases h; exact q_dec ((q_bind e).trans rfl)
  rw [if_neg c] at h; clear c
  by_cases c : op = 199
  · subst c; rw [if_pos rfl] at h; obtain ⟨x, y, t, rfl, rfl⟩ := lF3_inv h; exact q_dec ((q_bind e).trans ((q_bind (q_s2 (q_nx hb))).trans rfl))
  rw [if_neg c] at h; clear c
  by_cases c : op = 198
  · subst c; rw [if_pos rfl] at h; obtain ⟨x, y, t, rfl, rfl⟩ := lF3_inv h; exact q_dec ((q_bind e).trans ((q_bind (q_s2 (q_nx hb))).trans rfl))
  rw [if_neg c] at h; clear c
  by_cases c : op = 116
  · subst c; rw [if_pos rfl] at h; cases h; exact q_dec ((q_bind e).trans rfl)
  rw [if_neg c] at h; clear c
  by_cases c : op = 104
  · subst c; rw [if_pos rfl] at h; cases h; exact q_dec ((q_bind e).trans rfl)
  rw [if_neg c] at h; clear c
  by_cases c : op = 128
  · subst c; rw [if_pos rfl] at h; cases h; exact q_dec ((q_bind e).trans rfl)
  rw [if_neg c] at h; clear c
  by_cases c : op = 83
  · subst c; rw [if_pos rfl] at h; cases h; exact q_dec ((q_bind e).trans rfl)
  rw [if_neg c] at h; clear c
  by_cases c : op = 124
  · subst c; rw [if_pos rfl] at h; cases h; exact q_dec ((q_bind e).trans rfl)
  rw [if_neg c] at h; clear c
  by_cases c : op = 173
  · subst c; rw [if_pos rfl] at h; cases h; exact q_dec ((q_bind e).trans rfl)
  rw [if_neg c] at h; clear c
  by_cases c : op = 17
  · subst c; rw [if_pos rfl] at h; obtain ⟨x, y, t, rfl, rfl⟩ := lF3_inv h; exact q_dec ((q_bind e).trans ((q_bind (q_s2 (q_nx hb))).trans rfl))
  rw [if_neg c] at h; clear c
  by_cases c : op = 108
  · subst c; rw [if_pos rfl] at h; cases h; exact q_dec ((q_bind e).trans rfl)
  rw [if_neg c] at h; clear c
  exact lG7_ok hb e h
def lG5 (op : Nat) (r : List UInt8) : Option (Instr × Nat) :=
  if op = 120 then some (.ishl, 1)
  else if op = 158 then lF3 (fun n => .ifCond .le n) r
  else if op = 84 then some (.bastore, 1)
  else if op = 126 then some (.iand, 1)
  else if op = 55 then lF1 (fun n => .lstore n) r
  else if op = 22 then lF1 (fun n => .lload n) r
  else if op = 77 then some (.astore_n 2, 1)
  else if op = 51 then some (.baload, 1)
  else if op = 7 then some (.iconst 4, 1)
  else if op = 122 then some (.ishr, 1)
  else if op = 156 then lF3 (fun n => .ifCond .ge n) r
  else if op = 59 then some (.istore_n 0, 1)
  else lG6 op r
theorem lG5_ok {op : Nat} {b : UInt8} {r : List UInt8} {z : Instr × Nat} (hb : cc.data.toList.drop pc = b :: r) (e : (Reader.u1 : Decoder Nat) cc pc = .ok (op, pc + 1)) (h : lG5 op r = some z) : decode cc pc = .ok z := by
  unfold lG5 at h
  by_cases c : op = 120
  · subst c; rw [if_pos rfl] at h; cases h; exact q_dec ((q_bind e).trans rfl)
  rw [if_neg c] at h; clear c
  by_cases c : op = 158
  · subst c; rw [if_pos rfl] at h; obtain ⟨x, y, t, rfl, rfl⟩ := lF3_inv h; exact q_dec ((q_bind e).trans ((q_bind (q_s2 (q_nx hb))).trans rfl))
  rw [if_neg c] at h; clear c
  by_cases c : op = 84
  · subst c; rw [if_pos rfl] at h; cases h; exact q_dec ((q_bind e).trans rfl)
  rw [if_neg c] at h; clear c
  by_cases c : op = 126
  · subst c; rw [if_pos rfl] at h; cases h; exact q_dec ((q_bind e).trans rfl)
  rw [if_neg c] at h; clear c
  by_cases c : op = 55
  · subst c; rw [if_pos rfl] at h; obtain ⟨x, t, rfl, rfl⟩ := lF1_inv h; exact q_dec ((q_bind e).trans ((q_bind (q_u1 (q_nx hb))).trans rfl))
  rw [if_neg c] at h; clear c
  by_cases c : op = 22
  · subst c; rw [if_pos rfl] at h; obtain ⟨x, t, rfl, rfl⟩ := lF1_inv h; exact q_dec ((q_bind e).trans ((q_bind (q_u1 (q_nx hb))).trans rfl))
  rw [if_neg c] at h; clear c
  by_cases c : op = 77
  · subst c; rw [if_pos rfl] at h; cases h; exact q_dec ((q_bind e).trans rfl)
  rw [if_neg c] at h; clear c
  by_cases c : op = 51
  · subst c; rw [if_pos rfl] at h; cases h; exact q_dec ((q_bind e).trans rfl)
  rw [if_neg c] at h; clear c
  by_cases c : op = 7
  · subst c; rw [if_pos rfl] at h; cases h; exact q_dec ((q_bind e).trans rfl)
  rw [if_neg c] at h; clear c
  by_cases c : op = 122
  · subst c; rw [if_pos rfl] at h; cases h; exact q_dec ((q_bind e).trans rfl)
  rw [if_neg c] at h; clear c
  by_cases c : op = 156
  · subst c; rw [if_pos rfl] at h; obtain ⟨x, y, t, rfl, rfl⟩ := lF3_inv h; exact q_dec ((q_bind e).trans ((q_bind (q_s2 (q_nx hb))).trans rfl))
  rw [if_neg c] at h; clear c
  by_cases c : op = 59
  · subst c; rw [if_pos rfl] at h; cases h; exact q_dec ((q_bind e).trans rfl)
  rw [if_neg c] at h; clear c
  exact lG6_ok hb e h
def lG4 (op : Nat) (r : List UInt8) : Option (Instr × Nat) :=
  if op = 25 then lF1 (fun n => .aload n) r
  else if op = 79 then some (.iastore, 1)
  else if op = 192 then lF2 (fun n => .checkcast n) r
  else if op = 190 then some (.arraylength, 1)
  else if op = 31 then some (.lload_n 1, 1)
  else if op = 60 then some (.istore_n 1, 1)
  else if op = 164 then lF3 (fun n => .if_icmp .le n) r
  else if op = 19 then lF2 (fun n => .ldc_w n) r
  else if op = 8 then some (.iconst 5, 1)
  else if op = 112 then some (.irem, 1)
  else if op = 64 then some (.lstore_n 1, 1)
  else if op = 163 then lF3 (fun n => .if_icmp .gt n) r
  else lG5 op r
theorem lG4_ok {op : Nat} {b : UInt8} {r : List UInt8} {z : Instr × Nat} (hb : cc.data.toList.drop pc = b :: r) (e : (Reader.u1 : Decoder Nat) cc pc = .ok (op, pc + 1)) (h : lG4 op r = some z) : decode cc pc = .ok z := by
  unfold lG4 at h
  by_cases c : op = 25
  · subst c; rw [if_pos rfl] at h; obtain ⟨x, t, rfl, rfl⟩ := lF1_inv h; exact q_dec ((q_bind e).trans ((q_bind (q_u1 (q_nx hb))).trans rfl))
  rw [if_neg c] at h; clear c
  by_cases c : op = 79
  · subst c; rw [if_pos rfl] at h; cases h; exact q_dec ((q_bind e).trans rfl)
  rw [if_neg c] at h; clear c
  by_cases c : op = 192
  · subst c; rw [if_pos rfl] at h; obtain ⟨x, y, t, rfl, rfl⟩ := lF2_inv h; exact q_dec ((q_bind e).trans ((q_bind (q_u2 (q_nx hb))).trans rfl))
  rw [if_neg c] at h; clear c
  by_cases c : op = 190
  · subst c; rw [if_pos rfl] at h; cases h; exact q_dec ((q_bind e).trans rfl)
  rw [if_neg c] at h; clear c
  by_cases c : op = 31
  · subst c; rw [if_pos rfl] at h; cases h; exact q_dec ((q_bind e).trans rfl)
  rw [if_neg c] at h; clear c
  by_cases c : op = 60
  · subst c; rw [if_pos rfl] at h; cases h; exact q_dec ((q_bind e).trans rfl)
  rw [if_neg c] at h; clear c
  by_cases c : op = 164
  · subst c; rw [if_pos rfl] at h; obtain ⟨x, y, t, rfl, rfl⟩ := lF3_inv h; exact q_dec ((q_bind e).trans ((q_bind (q_s2 (q_nx hb))).trans rfl))
  rw [if_neg c] at h; clear c
  by_cases c : op = 19
  · subst c; rw [if_pos rfl] at h; obtain ⟨x, y, t, rfl, rfl⟩ := lF2_inv h; exact q_dec ((q_bind e).trans ((q_bind (q_u2 (q_nx hb))).trans rfl))
  rw [if_neg c] at h; clear c
  by_cases c : op = 8
  · subst c; rw [if_pos rfl] at h; cases h; exact q_dec ((q_bind e).trans rfl)
  rw [if_neg c] at h; clear c
  by_cases c : op = 112
  · subst c; rw [if_pos rfl] at h; cases h; exact q_dec ((q_bind e).trans rfl)
  rw [if_neg c] at h; clear c
  by_cases c : op = 64
  · subst c; rw [if_pos rfl] at h; cases h; exact q_dec ((q_bind e).trans rfl)
  rw [if_neg c] at h; clear c
  by_cases c : op = 163
  · subst c; rw [if_pos rfl] at h; obtain ⟨x, y, t, rfl, rfl⟩ := lF3_inv h; exact q_dec ((q_bind e).trans ((q_bind (q_s2 (q_nx hb))).trans rfl))
  rw [if_neg c] at h; clear c
  exact lG5_ok hb e h
def lG3 (op : Nat) (r : List UInt8) : Option (Instr × Nat) :=
  if op = 87 then some (.pop, 1)
  else if op = 50 then some (.aaload, 1)
  else if op = 6 then some (.iconst 3, 1)
  else if op = 61 then some (.istore_n 2, 1)
  else if op = 176 then some (.areturn, 1)
  else if op = 191 then some (.athrow, 1)
  else if op = 161 then lF3 (fun n => .if_icmp .lt n) r
  else if op = 18 then lF1 (fun n => .ldc n) r
  else if op = 178 then lF2 (fun n => .getstatic n) r
  else if op = 78 then some (.astore_n 3, 1)
  else if op = 159 then lF3 (fun n => .if_icmp .eq n) r
  else if op = 155 then lF3 (fun n => .ifCond .lt n) r
  else lG4 op r
theorem lG3_ok {op : Nat} {b : UInt8} {r : List UInt8} {z : Instr × Nat} (hb : cc.data.toList.drop pc = b :: r) (e : (Reader.u1 : Decoder Nat) cc pc = .ok (op, pc + 1)) (h : lG3 op r = some z) : decode cc pc = .ok z := by
  unfold lG3 at h
  by_cases c : op = 87
  · subst c; rw [if_pos rfl] at h; cases h; exact q_dec ((q_bind e).trans rfl)
  rw [if_neg c] at h; clear c
  by_cases c : op = 50
  · subst c; rw [if_pos rfl] at h; cases h; exact q_dec ((q_bind e).trans rfl)
  rw [if_neg c] at h; clear c
  by_cases c : op = 6
  · subst c; rw [if_pos rfl] at h; cases h; exact q_dec ((q_bind e).trans rfl)
  rw [if_neg c] at h; clear c
  by_cases c : op = 61
  · subst c; rw [if_pos rfl] at h; cases h; exact q_dec ((q_bind e).trans rfl)
  rw [if_neg c] at h; clear c
  by_cases c : op = 176
  · subst c; rw [if_pos rfl] at h; cases h; exact q_dec ((q_bind e).trans rfl)
  rw [if_neg c] at h; clear c
  by_cases c : op = 191
  · subst c; rw [if_pos rfl] at h; cases h; exact q_dec ((q_bind e).trans rfl)
  rw [if_neg c] at h; clear c
  by_cases c : op = 161
  · subst c; rw [if_pos rfl] at h; obtain ⟨x, y, t, rfl, rfl⟩ := lF3_inv h; exact q_dec ((q_bind e).trans ((q_bind (q_s2 (q_nx hb))).trans rfl))
  rw [if_neg c] at h; clear c
  by_cases c : op = 18
  · subst c; rw [if_pos rfl] at h; obtain ⟨x, t, rfl, rfl⟩ := lF1_inv h; exact q_dec ((q_bind e).trans ((q_bind (q_u1 (q_nx hb))).trans rfl))
  rw [if_neg c] at h; clear c
  by_cases c : op = 178
  · subst c; rw [if_pos rfl] at h; obtain ⟨x, y, t, rfl, rfl⟩ := lF2_inv h; exact q_dec ((q_bind e).trans ((q_bind (q_u2 (q_nx hb))).trans rfl))
  rw [if_neg c] at h; clear c
  by_cases c : op = 78
  · subst c; rw [if_pos rfl] at h; cases h; exact q_dec ((q_bind e).trans rfl)
  rw [if_neg c] at h; clear c
  by_cases c : op = 159
  · subst c; rw [if_pos rfl] at h; obtain ⟨x, y, t, rfl, rfl⟩ := lF3_inv h; exact q_dec ((q_bind e).trans ((q_bind (q_s2 (q_nx hb))).trans rfl))
  rw [if_neg c] at h; clear c
  by_cases c : op = 155
  · subst c; rw [if_pos rfl] at h; obtain ⟨x, y, t, rfl, rfl⟩ := lF3_inv h; exact q_dec ((q_bind e).trans ((q_bind (q_s2 (q_nx hb))).trans rfl))
  rw [if_neg c] at h; clear c
  exact lG4_ok hb e h
def lG2 (op : Nat) (r : List UInt8) : Option (Instr × Nat) :=
  if op = 154 then lF3 (fun n => .ifCond .ne n) r
  else if op = 62 then some (.istore_n 3, 1)
  else if op = 183 then lF2 (fun n => .invokespecial n) r
  else if op = 43 then some (.aload_n 1, 1)
  else if op = 177 then some (.return_, 1)
  else if op = 26 then some (.iload_n 0, 1)
  else if op = 58 then lF1 (fun n => .astore n) r
  else if op = 133 then some (.i2l, 1)
  else if op = 2 then some (.iconst (-1), 1)
  else if op = 100 then some (.isub, 1)
  else if op = 187 then lF2 (fun n => .new n) r
  else if op = 160 then lF3 (fun n => .if_icmp .ne n) r
  else lG3 op r
theorem lG2_ok {op : Nat} {b : UInt8} {r : List UInt8} {z : Instr × Nat} (hb : cc.data.toList.drop pc = b :: r) (e : (Reader.u1 : Decoder Nat) cc pc = .ok (op, pc + 1)) (h : lG2 op r = some z) : decode cc pc = .ok z := by
  unfold lG2 at h
  by_cases c : op = 154
  · subst c; rw [if_pos rfl] at h; obtain ⟨x, y, t, rfl, rfl⟩ := lF3_inv h; exact q_dec ((q_bind e).trans ((q_bind (q_s2 (q_nx hb))).trans rfl))
  rw [if_neg c] at h; clear c
  by_cases c : op = 62
  · subst c; rw [if_pos rfl] at h; cases h; exact q_dec ((q_bind e).trans rfl)
  rw [if_neg c] at h; clear c
  by_cases c : op = 183
  · subst c; rw [if_pos rfl] at h; obtain ⟨x, y, t, rfl, rfl⟩ := lF2_inv h; exact q_dec ((q_bind e).trans ((q_bind (q_u2 (q_nx hb))).trans rfl))
  rw [if_neg c] at h; clear c
  by_cases c : op = 43
  · subst c; rw [if_pos rfl] at h; cases h; exact q_dec ((q_bind e).trans rfl)
  rw [if_neg c] at h; clear c
  by_cases c : op = 177
  · subst c; rw [if_pos rfl] at h; cases h; exact q_dec ((q_bind e).trans rfl)
  rw [if_neg c] at h; clear c
  by_cases c : op = 26
  · subst c; rw [if_pos rfl] at h; cases h; exact q_dec ((q_bind e).trans rfl)
  rw [if_neg c] at h; clear c
  by_cases c : op = 58
  · subst c; rw [if_pos rfl] at h; obtain ⟨x, t, rfl, rfl⟩ := lF1_inv h; exact q_dec ((q_bind e).trans ((q_bind (q_u1 (q_nx hb))).trans rfl))
  rw [if_neg c] at h; clear c
  by_cases c : op = 133
  · subst c; rw [if_pos rfl] at h; cases h; exact q_dec ((q_bind e).trans rfl)
  rw [if_neg c] at h; clear c
  by_cases c : op = 2
  · subst c; rw [if_pos rfl] at h; cases h; exact q_dec ((q_bind e).trans rfl)
  rw [if_neg c] at h; clear c
  by_cases c : op = 100
  · subst c; rw [if_pos rfl] at h; cases h; exact q_dec ((q_bind e).trans rfl)
  rw [if_neg c] at h; clear c
  by_cases c : op = 187
  · subst c; rw [if_pos rfl] at h; obtain ⟨x, y, t, rfl, rfl⟩ := lF2_inv h; exact q_dec ((q_bind e).trans ((q_bind (q_u2 (q_nx hb))).trans rfl))
  rw [if_neg c] at h; clear c
  by_cases c : op = 160
  · subst c; rw [if_pos rfl] at h; obtain ⟨x, y, t, rfl, rfl⟩ := lF3_inv h; exact q_dec ((q_bind e).trans ((q_bind (q_s2 (q_nx hb))).trans rfl))
  rw [if_neg c] at h; clear c
  exact lG3_ok hb e h
def lG1 (op : Nat) (r : List UInt8) : Option (Instr × Nat) :=
  if op = 184 then lF2 (fun n => .invokestatic n) r
  else if op = 46 then some (.iaload, 1)
  else if op = 54 then lF1 (fun n => .istore n) r
  else if op = 5 then some (.iconst 2, 1)
  else if op = 153 then lF3 (fun n => .ifCond .eq n) r
  else if op = 45 then some (.aload_n 3, 1)
  else if op = 132 then lF5 (fun n k => .iinc n k) r
  else if op = 44 then some (.aload_n 2, 1)
  else if op = 181 then lF2 (fun n => .putfield n) r
  else if op = 16 then lF4 (fun n => .bipush n) r
  else if op = 162 then lF3 (fun n => .if_icmp .ge n) r
  else if op = 89 then some (.dup, 1)
  else lG2 op r
theorem lG1_ok {op : Nat} {b : UInt8} {r : List UInt8} {z : Instr × Nat} (hb : cc.data.toList.drop pc = b :: r) (e : (Reader.u1 : Decoder Nat) cc pc = .ok (op, pc + 1)) (h : lG1 op r = some z) : decode cc pc = .ok z := by
  unfold lG1 at h
  by_cases c : op = 184
  · subst c; rw [if_pos rfl] at h; obtain ⟨x, y, t, rfl, rfl⟩ := lF2_inv h; exact q_dec ((q_bind e).trans ((q_bind (q_u2 (q_nx hb))).trans rfl))
  rw [if_neg c] at h; clear c
  by_cases c : op = 46
  · subst c; rw [if_pos rfl] at h; cases h; exact q_dec ((q_bind e).trans rfl)
  rw [if_neg c] at h; clear c
  by_cases c : op = 54
  · subst c; rw [if_pos rfl] at h; obtain ⟨x, t, rfl, rfl⟩ := lF1_inv h; exact q_dec ((q_bind e).trans ((q_bind (q_u1 (q_nx hb))).trans rfl))
  rw [if_neg c] at h; clear c
  by_cases c : op = 5
  · subst c; rw [if_pos rfl] at h; cases h; exact q_dec ((q_bind e).trans rfl)
  rw [if_neg c] at h; clear c
  by_cases c : op = 153
  · subst c; rw [if_pos rfl] at h; obtain ⟨x, y, t, rfl, rfl⟩ := lF3_inv h; exact q_dec ((q_bind e).trans ((q_bind (q_s2 (q_nx hb))).trans rfl))
  rw [if_neg c] at h; clear c
  by_cases c : op = 45
  · subst c; rw [if_pos rfl] at h; cases h; exact q_dec ((q_bind e).trans rfl)
  rw [if_neg c] at h; clear c
  by_cases c : op = 132
  · subst c; rw [if_pos rfl] at h; obtain ⟨x, y, t, rfl, rfl⟩ := lF5_inv h; exact q_dec ((q_bind e).trans ((q_bind (q_u1 (q_nx hb))).trans ((q_bind (q_s1 (q_nx (q_nx hb)))).trans rfl)))
  rw [if_neg c] at h; clear c
  by_cases c : op = 44
  · subst c; rw [if_pos rfl] at h; cases h; exact q_dec ((q_bind e).trans rfl)
  rw [if_neg c] at h; clear c
  by_cases c : op = 181
  · subst c; rw [if_pos rfl] at h; obtain ⟨x, y, t, rfl, rfl⟩ := lF2_inv h; exact q_dec ((q_bind e).trans ((q_bind (q_u2 (q_nx hb))).trans rfl))
  rw [if_neg c] at h; clear c
  by_cases c : op = 16
  · subst c; rw [if_pos rfl] at h; obtain ⟨x, t, rfl, rfl⟩ := lF4_inv h; exact q_dec ((q_bind e).trans ((q_bind (q_s1 (q_nx hb))).trans rfl))
  rw [if_neg c] at h; clear c
  by_cases c : op = 162
  · subst c; rw [if_pos rfl] at h; obtain ⟨x, y, t, rfl, rfl⟩ := lF3_inv h; exact q_dec ((q_bind e).trans ((q_bind (q_s2 (q_nx hb))).trans rfl))
  rw [if_neg c] at h; clear c
  by_cases c : op = 89
  · subst c; rw [if_pos rfl] at h; cases h; exact q_dec ((q_bind e).trans rfl)
  rw [if_neg c] at h; clear c
  exact lG2_ok hb e h
def lG0 (op : Nat) (r : List UInt8) : Option (Instr × Nat) :=
  if op = 42 then some (.aload_n 0, 1)
  else if op = 182 then lF2 (fun n => .invokevirtual n) r
  else if op = 27 then some (.iload_n 1, 1)
  else if op = 21 then lF1 (fun n => .iload n) r
  else if op = 172 then some (.ireturn, 1)
  else if op = 4 then some (.iconst 1, 1)
  else if op = 180 then lF2 (fun n => .getfield n) r
  else if op = 28 then some (.iload_n 2, 1)
  else if op = 3 then some (.iconst 0, 1)
  else if op = 167 then lF3 (fun n => .goto n) r
  else if op = 29 then some (.iload_n 3, 1)
  else if op = 96 then some (.iadd, 1)
  else lG1 op r
theorem lG0_ok {op : Nat} {b : UInt8} {r : List UInt8} {z : Instr × Nat} (hb : cc.data.toList.drop pc = b :: r) (e : (Reader.u1 : Decoder Nat) cc pc = .ok (op, pc + 1)) (h : lG0 op r = some z) : decode cc pc = .ok z := by
  unfold lG0 at h
  by_cases c : op = 42
  · subst c; rw [if_pos rfl] at h; cases h; exact q_dec ((q_bind e).trans rfl)
  rw [if_neg c] at h; clear c
  by_cases c : op = 182
  · subst c; rw [if_pos rfl] at h; obtain ⟨x, y, t, rfl, rfl⟩ := lF2_inv h; exact q_dec ((q_bind e).trans ((q_bind (q_u2 (q_nx hb))).trans rfl))
  rw [if_neg c] at h; clear c
  by_cases c : op = 27
  · subst c; rw [if_pos rfl] at h; cases h; exact q_dec ((q_bind e).trans rfl)
  rw [if_neg c] at h; clear c
  by_cases c : op = 21
  · subst c; rw [if_pos rfl] at h; obtain ⟨x, t, rfl, rfl⟩ := lF1_inv h; exact q_dec ((q_bind e).trans ((q_bind (q_u1 (q_nx hb))).trans rfl))
  rw [if_neg c] at h; clear c
  by_cases c : op = 172
  · subst c; rw [if_pos rfl] at h; cases h; exact q_dec ((q_bind e).trans rfl)
  rw [if_neg c] at h; clear c
  by_cases c : op = 4
  · subst c; rw [if_pos rfl] at h; cases h; exact q_dec ((q_bind e).trans rfl)
  rw [if_neg c] at h; clear c
  by_cases c : op = 180
  · subst c; rw [if_pos rfl] at h; obtain ⟨x, y, t, rfl, rfl⟩ := lF2_inv h; exact q_dec ((q_bind e).trans ((q_bind (q_u2 (q_nx hb))).trans rfl))
  rw [if_neg c] at h; clear c
  by_cases c : op = 28
  · subst c; rw [if_pos rfl] at h; cases h; exact q_dec ((q_bind e).trans rfl)
  rw [if_neg c] at h; clear c
  by_cases c : op = 3
  · subst c; rw [if_pos rfl] at h; cases h; exact q_dec ((q_bind e).trans rfl)
  rw [if_neg c] at h; clear c
  by_cases c : op = 167
  · subst c; rw [if_pos rfl] at h; obtain ⟨x, y, t, rfl, rfl⟩ := lF3_inv h; exact q_dec ((q_bind e).trans ((q_bind (q_s2 (q_nx hb))).trans rfl))
  rw [if_neg c] at h; clear c
  by_cases c : op = 29
  · subst c; rw [if_pos rfl] at h; cases h; exact q_dec ((q_bind e).trans rfl)
  rw [if_neg c] at h; clear c
  by_cases c : op = 96
  · subst c; rw [if_pos rfl] at h; cases h; exact q_dec ((q_bind e).trans rfl)
  rw [if_neg c] at h; clear c
  exact lG1_ok hb e h
def lD : List UInt8 → Option (Instr × Nat)
  | [] => none
  | b :: r => lG0 b.toNat r
theorem lD_ok {z : Instr × Nat} (h : lD (cc.data.toList.drop pc) = some z) : decode cc pc = .ok z := by
  cases hb : cc.data.toList.drop pc with
  | nil => rw [hb] at h; cases h
  | cons b r => rw [hb] at h; exact lG0_ok hb (q_u1 hb) h
def lI (i : Instr) (n : Nat) (bs : List UInt8) : Bool := match lD bs with
  | some z => decide (z = (i, n))
  | none => false
theorem lI_ok {i : Instr} {n : Nat} (h : lI i n (cc.data.toList.drop pc) = true) : decode cc pc = .ok (i, n) := by
  unfold lI at h
  cases hd : lD (cc.data.toList.drop pc) with
  | none => rw [hd] at h; cases h
  | some z => rw [hd] at h; rw [lD_ok hd, of_decide_eq_true h]
def lS : zSg → List UInt8 → Bool
  | [], _ => true
  | (i, c) :: t, bs => lI i (zLn i) bs && zCk i c && lS t (bs.drop (zLn i))
theorem lS_ok : ∀ (sg : zSg) (pc : Nat), lS sg (cc.data.toList.drop pc) = true → zSeg cc sg pc = true
  | [], _, _ => rfl
  | (i, c) :: t, pc, h => by
    simp only [lS, Bool.and_eq_true] at h
    obtain ⟨⟨h1, h2⟩, h3⟩ := h
    rw [List.drop_drop] at h3
    simp only [zSeg, Bool.and_eq_true]
    refine ⟨⟨?_, h2⟩, lS_ok t (pc + zLn i) h3⟩
    rw [lI_ok h1]
    exact decide_eq_true rfl
theorem lI_at {i : Instr} {n : Nat} (a b : Nat) (h : lI i n ((cc.data.toList.drop a).drop b) = true) : decode cc (a + b) = .ok (i, n) := by
  rw [List.drop_drop] at h
  exact lI_ok h
theorem lS_at {sg : zSg} (a b : Nat) (h : lS sg ((cc.data.toList.drop a).drop b) = true) : zSeg cc sg (a + b) = true := by
  rw [List.drop_drop] at h
  exact lS_ok sg _ h
def lSa (y : zM) (pc : Nat) (sg : zSg) : Bool := lS sg (y.2.1.data.toList.drop pc)
def lIa (y : zM) (pc : Nat) (i : Instr) (n : Nat) : Bool := lI i n (y.2.1.data.toList.drop pc)
theorem lSa_ok {y : zM} {pc : Nat} {sg : zSg} (h : lSa y pc sg = true) : zSeg y.2.1 sg pc = true := lS_ok sg pc h
theorem lIa_ok {y : zM} {pc : Nat} {i : Instr} {n : Nat} (h : lIa y pc i n = true) : decode y.2.1 pc = .ok (i, n) := lI_ok h
theorem lA8 {a b c d e f g h r P : Prop} (H : a ∧ b ∧ c ∧ d ∧ e ∧ f ∧ g ∧ h ∧ r) (k : a → b → c → d → e → f → g → h → r → P) : P := k H.1 H.2.1 H.2.2.1 H.2.2.2.1 H.2.2.2.2.1 H.2.2.2.2.2.1 H.2.2.2.2.2.2.1 H.2.2.2.2.2.2.2.1 H.2.2.2.2.2.2.2.2
end LQ
end
section
/-! the tables, row by row -/
theorem zU1 {w : Cond} (i : Nat) (h : tables_1_1[i]? = some w) (hg : zGood w = true) : w ∈ zT := zT_of (List.mem_append_right _ (tu1 _ (List.mem_of_getElem? h))) hg
theorem zU2 {w : Cond} (i : Nat) (h : tables_1_2[i]? = some w) (hg : zGood w = true) : w ∈ zT := zT_of (List.mem_append_right _ (tu2 _ (List.mem_of_getElem? h))) hg
theorem zU3 {w : Cond} (i : Nat) (h : tables_1_3[i]? = some w) (hg : zGood w = true) : w ∈ zT := zT_of (List.mem_append_right _ (tu3 _ (List.mem_of_getElem? h))) hg
theorem zU4 {w : Cond} (i : Nat) (h : tables_1_4[i]? = some w) (hg : zGood w = true) : w ∈ zT := zT_of (List.mem_append_right _ (tu4 _ (List.mem_of_getElem? h))) hg
theorem zU5 {w : Cond} (i : Nat) (h : tables_1_5[i]? = some w) (hg : zGood w = true) : w ∈ zT := zT_of (List.mem_append_right _ (tu5 _ (List.mem_of_getElem? h))) hg
theorem zU6 {w : Cond} (i : Nat) (h : tables_1_6[i]? = some w) (hg : zGood w = true) : w ∈ zT := zT_of (List.mem_append_right _ (tu6 _ (List.mem_of_getElem? h))) hg
theorem zU7 {w : Cond} (i : Nat) (h : tables_1_7[i]? = some w) (hg : zGood w = true) : w ∈ zT := zT_of (List.mem_append_right _ (tu7 _ (List.mem_of_getElem? h))) hg
theorem zU8 {w : Cond} (i : Nat) (h : tables_1_8[i]? = some w) (hg : zGood w = true) : w ∈ zT := zT_of (List.mem_append_right _ (tu8 _ (List.mem_of_getElem? h))) hg
end
