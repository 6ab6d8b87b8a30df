/-! The judgement Z: a frame of a method that owes (Q, QX) at its end, over an abstract heap G (its size, what its cells hold). -/
abbrev zE : Type := (Nat × vp_A) ⊕ (Nat × List Value)
abbrev zH : Type := Nat × (Nat → Option zE)
abbrev zM : Type := MethodName × ByteArray × Nat × Option FieldType
section ZDefs
variable (D : va_G) (cl : List vw_C) (tys : List (Nat × FieldType)) (B : Nat)
def zat (q : Nat) (e : zE) (H : Heap) : Prop := match e with
  | .inl a => ∃ cell : Cell, H[q]? = some cell ∧ cell.cls = D.1 (a.1 % 1000) ∧ (a.1 < 1000 → cell = vp_cell (D.1 (a.1 % 1000)) a.2) ∧ cell.vm ≠ .unknown ∧ cell.vm.isStatics = false ∧ cell.slots = (vp_cell 0 a.2).slots
  | .inr o => ∃ (r : vw_C) (cell : Cell), cl[o.1 % 1000]? = some r ∧ H[q]? = some cell ∧ cell.cls = D.1 (o.1 % 1000) ∧ (o.1 < 1000 → cell.vm = .none) ∧ cell.vm ≠ .unknown ∧ cell.vm.isStatics = false ∧ ∀ (k : Nat) (v : Value), k < r.2.2 → o.2[k]? = some v → cell.slots[D.2 (o.1 % 1000) k]? = some v
/-- an old cell, to be read alone: its kind is told with 1000 more -/
def zRO (e : zE) : Bool := match e with
  | .inl a => decide (1000 ≤ a.1)
  | .inr o => decide (1000 ≤ o.1)
def zRel (G : zH) (H : Heap) : Prop := H.size = G.1 ∧ ∀ (a : Nat) (e : zE), G.2 a = some e → (zRO e = false → B ≤ a) ∧ zat D cl a e H
def zTy : List (ClassId × FieldType) := tys.map fun q => (D.1 q.1, q.2)
def zKn (U : State) : Prop := va_K D cl (zTy D tys) U
end ZDefs
def zGood (w : Cond) : Bool := goodWord w || match w with
  | .castable _ _ => true
  | .methodLinkNest _ _ _ _ => true
  | .fieldLinkNest _ _ _ _ _ _ => true
  | .declares _ => true
  | .arrayOver (.object _) => true
  | _ => false
theorem zGood_stay {w : Cond} (hg : zGood w = true) {s U : State} {a a' : Array Value} (hW : s.WarmedH U.vm) (h : w.before a s = true) : w.before a' U = true := by
  unfold zGood at hg
  rw [Bool.or_eq_true] at hg
  rcases hg with hg | hg
  · exact word_at hW (good_of_word hg) h
  · split at hg
    · exact va_Nw.use rfl (va_Nw.warmC hW (va_Nw.of rfl h))
    · exact va_Nw.use rfl (va_Nw.warmM hW (va_Nw.of rfl h))
    · exact va_Nw.use rfl (va_Nw.warmF hW (va_Nw.of rfl h))
    · exact va_Nw.use rfl (va_Nw.warmD hW (va_Nw.of rfl h))
    · exact va_AO.use (va_AO.moved hW.alike (va_AO.of h))
    · cases hg
/-- private methods of a class above, chosen on a StringBuilder: out of the tables at the law's entry (zSelP) -/
def zX : List Cond := [.selects "java/lang/StringBuilder" ⟨"java/lang/AbstractStringBuilder", "appendNull", "()Ljava/lang/AbstractStringBuilder;"⟩ ⟨"java/lang/AbstractStringBuilder", "appendNull", "()Ljava/lang/AbstractStringBuilder;"⟩, .selects "java/lang/StringBuilder" ⟨"java/lang/AbstractStringBuilder", "ensureCapacityInternal", "(I)V"⟩ ⟨"java/lang/AbstractStringBuilder", "ensureCapacityInternal", "(I)V"⟩, .selects "java/lang/StringBuilder" ⟨"java/lang/AbstractStringBuilder", "inflate", "()V"⟩ ⟨"java/lang/AbstractStringBuilder", "inflate", "()V"⟩, .selects "java/lang/StringBuilder" ⟨"java/lang/AbstractStringBuilder", "inflateIfNeededFor", "(Ljava/lang/String;)V"⟩ ⟨"java/lang/AbstractStringBuilder", "inflateIfNeededFor", "(Ljava/lang/String;)V"⟩, .selects "java/lang/StringBuilder" ⟨"java/lang/AbstractStringBuilder", "newCapacity", "(I)I"⟩ ⟨"java/lang/AbstractStringBuilder", "newCapacity", "(I)I"⟩, .selects "java/lang/StringBuilder" ⟨"java/lang/AbstractStringBuilder", "putStringAt", "(ILjava/lang/String;)V"⟩ ⟨"java/lang/AbstractStringBuilder", "putStringAt", "(ILjava/lang/String;)V"⟩]
/-- the words that every method's contract asks -/
def zT : List Cond := (zX ++ lw_tbl).filter zGood
theorem zT_of {w : Cond} (h : w ∈ lw_tbl) (hg : zGood w = true) : w ∈ zT := List.mem_filter.mpr ⟨List.mem_append_right _ h, hg⟩
theorem zT_x {w : Cond} (h : w ∈ zX) (hg : zGood w = true) : w ∈ zT := List.mem_filter.mpr ⟨List.mem_append_left _ h, hg⟩
theorem zT_t {w : Cond} (i : Nat) (h : tables_1[i]? = some w) (hg : zGood w = true) : w ∈ zT := zT_of (List.mem_append_right _ (List.mem_of_getElem? h)) hg
theorem zT_s {w : Cond} (q : MethodName × Nat) (h : q ∈ lw_privs) (hw : w = Cond.selects q.1.cls q.1 q.1) (hg : zGood w = true) : w ∈ zT := zT_of (List.mem_append_left _ (by subst hw; exact List.mem_map.mpr ⟨q, h, rfl⟩)) hg
theorem zT_stay {s U : State} {a a' : Array Value} (hW : s.WarmedH U.vm) (h : ∀ w ∈ zT, w.before a s = true) : ∀ w ∈ zT, w.before a' U = true :=
  fun w hw => zGood_stay (List.mem_filter.mp hw).2 hW (h w hw)
def zW (M : zM) : List Cond := .code M.1 M.2.1 M.2.2.1 M.2.2.2 :: zT
/-- what a claim's own side tells: its launch, its class ids, its classes, its arrays' classes, where its own cells begin, what is told of the old ones -/
abbrev zV : Type := Launch × va_G × List vw_C × List (Nat × FieldType) × Nat × (State → Heap → Prop)
def zA (V : zV) : Nat → Prop := fun q => V.2.2.2.2.1 ≤ q
abbrev zRl (V : zV) (G : zH) (H : Heap) : Prop := zRel V.2.1 V.2.2.1 V.2.2.2.2.1 G H
abbrev zK (V : zV) (U : State) : Prop := zKn V.2.1 V.2.2.1 V.2.2.2.1 U
/-- what is told of the old cells stays, however the tables warm up and whatever is written beyond them -/
def zOk (V : zV) : Prop := V.1.stackTraces = false ∧ (∀ (u U : State) (H : Heap), u.vm = U.vm → V.2.2.2.2.2 u H → V.2.2.2.2.2 U H) ∧ ∀ (u U : State) (H H1 : Heap), u.WarmedH U.vm → (∀ q : Nat, q < H.size → ¬ zA V q → H1[q]? = H[q]?) → H.size ≤ H1.size → V.2.2.2.2.2 u H → V.2.2.2.2.2 U H1
def zPc (V : zV) (As : List Value) (G : zH) : Array Value → State → Prop := fun a U => a = As.toArray ∧ zRl V G U.heap ∧ zK V U ∧ V.2.2.2.2.2 U U.heap ∧ V.2.2.2.2.1 ≤ U.heap.size
def zQc (V : zV) (Q : Option Value → zH → Prop) : Array Value → State → Outcome → State → Prop := fun _ st o t => ∃ (v : Option Value) (G' : zH), o = .returned v ∧ Q v G' ∧ zRl V G' t.heap ∧ va_F (zA V) st t
def zXC (V : zV) (QX : String → zH → Prop) : String → State → State → Prop := fun E st t => ∃ G' : zH, QX E G' ∧ zRl V G' t.heap ∧ va_F (zA V) st t
def zRm (fr mc ms : Nat) : Room := { frames := fr, cells := mc, slots := ms, locals := 60 * fr }
/-- a method's contract: at these arguments in this heap it ends in Q or throws in QX, with at most fr frames over it and mc cells of ms slots -/
def zMet (V : zV) (M : zM) (fr mc ms : Nat) (As : List Value) (G : zH) (Q : Option Value → zH → Prop) (QX : String → zH → Prop) : Prop :=
  vx_Met V.1 M.1 (zW M) (zRm fr mc ms) (zPc V As G) (zQc V Q) (zXC V QX) mc ms (zA V)
/-- what stays fixed while a method's body is walked -/
def zCx (V : zV) (M : zM) (p : Program) (R : Room) (s : State) (m : MethodId) (args : Array Value) (meth : Method) (c : Code) : Prop :=
  p.tables.exec = Jvm.exec ∧ c.code = M.2.1 ∧ c.maxLocals = M.2.2.1 ∧ meth.sig.returnType = M.2.2.2 ∧ meth.locks = false ∧ s.vm.findClass M.1.cls = some m.cls ∧ meth.name = M.1.name ∧ (∀ w ∈ zT, w.before args s = true) ∧ zK V s ∧ V.2.2.2.2.2 s s.heap ∧ V.2.2.2.2.1 ≤ s.heap.size ∧ (∀ x ∈ c.exceptionTable.toList, False)
def Z (V : zV) (M : zM) (fr : Nat) (Q : Option Value → zH → Prop) (QX : String → zH → Prop) (mc ms pc : Nat) (L : zLs) (st : List Value) (G : zH) : Prop :=
  ∀ (p : Program) (e : Env) (R : Room) (s : State) (m : MethodId) (args : Array Value) (below : List Frame) (meth : Method) (c : Code) (H : Heap) (locs : List Loc) (cells slots CT ST : Nat) (ls : Array Slot),
    zCx V M p R s m args meth c → fr ≤ R.frames → 60 * fr ≤ R.locals → CT ≤ R.cells → ST ≤ R.slots → cells + mc ≤ CT → slots + ms ≤ ST → va_S (zA V) s.heap H locs → zRl V G H → zL ls L →
    W p V.1 e R s m args below meth c H locs cells slots (vx_MQ below (zQc V Q) (zXC V QX) args s CT ST (zA V)) (F0 m pc ls st)
theorem Z.blk {V : zV} {M : zM} {fr : Nat} {Q : Option Value → zH → Prop} {QX : String → zH → Prop} {mc ms pc pc' : Nat} {L L' : zLs} {st st' : List Value} {G : zH} {sg : zSg} (hs : zSeg M.2.1 sg pc = true) (hr : zRun sg pc L st = some (pc', L', st'))
    (k : Z V M fr Q QX mc ms pc' L' st' G) : Z V M fr Q QX mc ms pc L st G := by
  intro p e R s m args below meth c H locs cells slots CT ST ls C h1 h2 h3 h4 h5 h6 hS hR hl
  exact zRun_sound C.1 C.2.1 sg pc L st _ ls hs hr hl (fun ls' hl' => k p e R s m args below meth c H locs cells slots CT ST ls' C h1 h2 h3 h4 h5 h6 hS hR hl')
theorem Z.less {V : zV} {M : zM} {fr : Nat} {Q : Option Value → zH → Prop} {QX : String → zH → Prop} {mc ms pc : Nat} {L L' : zLs} {st : List Value} {G : zH} (h : zLe L' L) (k : Z V M fr Q QX mc ms pc L' st G) : Z V M fr Q QX mc ms pc L st G := by
  intro p e R s m args below meth c H locs cells slots CT ST ls C h1 h2 h3 h4 h5 h6 hS hR hl
  exact k p e R s m args below meth c H locs cells slots CT ST ls C h1 h2 h3 h4 h5 h6 hS hR (hl.mono h)
theorem Z.room {V : zV} {M : zM} {fr fr' : Nat} {Q : Option Value → zH → Prop} {QX : String → zH → Prop} {mc ms mc' ms' pc : Nat} {L : zLs} {st : List Value} {G : zH} (hf : fr' ≤ fr) (hc : mc' ≤ mc) (hs : ms' ≤ ms) (k : Z V M fr' Q QX mc' ms' pc L st G) : Z V M fr Q QX mc ms pc L st G := by
  intro p e R s m args below meth c H locs cells slots CT ST ls C h1 h2 h3 h4 h5 h6 hS hR hl
  exact k p e R s m args below meth c H locs cells slots CT ST ls C (by omega) (by omega) h3 h4 (by omega) (by omega) hS hR hl
