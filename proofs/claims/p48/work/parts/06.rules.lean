section ZRel
variable {D : va_G} {cl : List vw_C} {tys : List (Nat × FieldType)} {B : Nat}
def zUp (G : zH) (a : Nat) (e : zE) : zH := (G.1, fun q => if q = a then some e else G.2 q)
def zNew (G : zH) (e : zE) : zH := (G.1 + 1, fun q => if q = G.1 then some e else G.2 q)
theorem zUp_at (G : zH) (a : Nat) (e : zE) : (zUp G a e).2 a = some e := by simp [zUp]
theorem zUp_ne (G : zH) {a q : Nat} (e : zE) (h : q ≠ a) : (zUp G a e).2 q = G.2 q := by simp [zUp, h]
theorem zUp_sz (G : zH) (a : Nat) (e : zE) : (zUp G a e).1 = G.1 := rfl
theorem zNew_at (G : zH) (e : zE) : (zNew G e).2 G.1 = some e := by simp [zNew]
theorem zNew_ne (G : zH) {q : Nat} (e : zE) (h : q ≠ G.1) : (zNew G e).2 q = G.2 q := by simp [zNew, h]
theorem zNew_sz (G : zH) (e : zE) : (zNew G e).1 = G.1 + 1 := rfl
theorem zat.lt {q : Nat} {e : zE} {H : Heap} (h : zat D cl q e H) : q < H.size := by
  cases e with
  | inl a => exact (Array.getElem?_eq_some_iff.mp h).1
  | inr o => obtain ⟨r, -, cell, h1, -⟩ := h; exact (Array.getElem?_eq_some_iff.mp h1).1
theorem zat.kept {q : Nat} {e : zE} {H H1 : Heap} (h : zat D cl q e H) (hq : H1[q]? = H[q]?) : zat D cl q e H1 := by
  cases e with
  | inl a => exact (show H1[q]? = _ by rw [hq]; exact h)
  | inr o => obtain ⟨r, h0, h1⟩ := h; exact ⟨r, h0, h1.kept hq⟩
theorem zRel.lt {G : zH} {H : Heap} (h : zRel D cl B G H) {a : Nat} {e : zE} (he : G.2 a = some e) : a < G.1 := by
  rw [← h.1]; exact (h.2 a e he).2.lt
theorem zRel.up {G : zH} {H H1 : Heap} (h : zRel D cl B G H) {a : Nat} {e : zE} (ha : B ≤ a) (h1 : zat D cl a e H1) (hz : H1.size = H.size) (ho : ∀ q, q ≠ a → H1[q]? = H[q]?) : zRel D cl B (zUp G a e) H1 := by
  refine ⟨by rw [hz]; exact h.1, fun q e' hq => ?_⟩
  by_cases hqa : q = a
  · subst hqa
    rw [zUp_at] at hq
    cases hq
    exact ⟨ha, h1⟩
  · rw [zUp_ne G e hqa] at hq
    exact ⟨(h.2 q e' hq).1, (h.2 q e' hq).2.kept (ho q hqa)⟩
theorem zRel.new {G : zH} {H H1 : Heap} (h : zRel D cl B G H) {e : zE} (ha : B ≤ H.size) (h1 : zat D cl H.size e H1) (hz : H1.size = H.size + 1) (ho : ∀ q, q < H.size → H1[q]? = H[q]?) : zRel D cl B (zNew G e) H1 := by
  have hs := h.1
  refine ⟨by rw [hz, hs]; rfl, fun q e' hq => ?_⟩
  by_cases hqa : q = G.1
  · subst hqa
    rw [zNew_at] at hq
    cases hq
    rw [← hs]
    exact ⟨ha, h1⟩
  · rw [zNew_ne G e hqa] at hq
    exact ⟨(h.2 q e' hq).1, (h.2 q e' hq).2.kept (ho q (h.2 q e' hq).2.lt)⟩
theorem zKn.moved {U u : State} (hvm : u.vm.Alike U.vm) (h : zKn D cl tys u) : zKn D cl tys U := va_K.moved hvm h
theorem zTy_at {k t0 : Nat} {ty : FieldType} (h : tys[t0]? = some (k, ty)) : (zTy D tys)[t0]? = some (D.1 k, ty) := by
  unfold zTy
  rw [List.getElem?_map, h]
  rfl
end ZRel
theorem va_S.put1 {A : Nat → Prop} {H0 H H1 : Heap} {locs : List Loc} {a i : Nat} (hS : va_S A H0 H locs) (ha : A a) (hz : H1.size = H.size) (ho : ∀ q, q ≠ a → H1[q]? = H[q]?) : va_S A H0 H1 (locs ++ [⟨a, i⟩]) := by
  refine ⟨by rw [hz]; exact hS.1, fun q hq hn => ?_, fun x hx => ?_⟩
  · rw [ho q (fun h => hn (by rw [h]; exact ha))]
    exact hS.2.1 q hq hn
  · rcases List.mem_append.mp hx with h | h
    · exact hS.2.2 x h
    · rw [List.mem_singleton.mp h]; exact ha
theorem va_S.new1 {A : Nat → Prop} {H0 H H1 : Heap} {locs : List Loc} (hS : va_S A H0 H locs) (hz : H1.size = H.size + 1) (ho : ∀ q, q < H.size → H1[q]? = H[q]?) : va_S A H0 H1 locs :=
  ⟨Nat.le_trans hS.1 (by omega), fun x g1 g2 => (ho x (Nat.lt_of_lt_of_le g1 hS.1)).trans (hS.2.1 x g1 g2), hS.2.2⟩
theorem va_S.toF {A : Nat → Prop} {s t : State} {H : Heap} {locs : List Loc} (hS : va_S A s.heap H locs) (h : t.heap = H) : va_F A s t := by
  subst h; exact ⟨hS.1, hS.2.1⟩
theorem zRm_room {fr mc ms : Nat} : (zRm fr mc ms).frames = fr := rfl
/-- the contract out of the body's walk -/
theorem zMet.of {V : zV} {M : zM} {fr mc ms : Nat} {As : List Value} {G : zH} {Q : Option Value → zH → Prop} {QX : String → zH → Prop} (hy : plainName M.1.cls = true) (hn : (lg_sl As).length ≤ M.2.2.1)
    (L : zLs) (hL : ∀ ls, lv_has ls M.2.2.1 (lv_args 0 As) → zL ls L) (k : Z V M fr Q QX mc ms 0 L [] G) : zMet V M fr mc ms As G Q QX := by
  refine vx_ofW (cc := M.2.1) (maxL := M.2.2.1) (ret := M.2.2.2) hy rfl ?_
  intro p e s m args below meth c s₁ Bd hml hex hv
  obtain ⟨rfl, hRl, hK, hO, hB⟩ := hv
  have hts := atoms_spec (ws := zW M) Bd.pre
  have hl := lv_entry As hn
  rw [lg_entry_eq]
  generalize (lg_sl As ++ List.replicate (M.2.2.1 - (lg_sl As).length) Slot.unset).toArray = ls at hl ⊢
  exact k p e _ s m _ below meth c s.heap [] 0 0 mc ms ls
    ⟨Bd.exec, Bd.bytes, hml, Bd.returns, Bd.notSynchronized, findClass_of_methodNamed Bd.named, (name_of_methodNamed Bd.named Bd.method).1, fun w hw => hts w (List.mem_cons_of_mem _ hw), hK, hO, hB, hex⟩
    (Nat.le_refl _) (Nat.le_refl _) (Nat.le_refl _) (Nat.le_refl _) (by omega) (by omega) va_S.rf hRl (hL ls hl)
-- branches
theorem Z.if_eq {V : zV} {M : zM} {fr : Nat} {Q : Option Value → zH → Prop} {QX : String → zH → Prop} {mc ms pc : Nat} {L : zLs} {st : List Value} {G : zH} {x : Int32} {off : Int} {tgt : Nat} (hd : decode M.2.1 pc = .ok (.ifCond .eq off, 3)) (ht : (pc : Int) + off = (tgt : Int)) (kt : x = 0 → Z V M fr Q QX mc ms tgt L st G) (kf : ¬ x = 0 → Z V M fr Q QX mc ms (pc + 3) L st G) : Z V M fr Q QX mc ms pc L (.int x :: st) G := by
  intro p e R s m args below meth c H locs cells slots CT ST ls C h1 h2 h3 h4 h5 h6 hS hR hl
  exact lv_if_eq C.1 C.2.1 hd ht (fun q => (kt q) p e R s m args below meth c H locs cells slots CT ST ls C h1 h2 h3 h4 h5 h6 hS hR hl) (fun q => kf q p e R s m args below meth c H locs cells slots CT ST ls C h1 h2 h3 h4 h5 h6 hS hR hl)
theorem Z.ic_eq {V : zV} {M : zM} {fr : Nat} {Q : Option Value → zH → Prop} {QX : String → zH → Prop} {mc ms pc : Nat} {L : zLs} {st : List Value} {G : zH} {x y : Int32} {off : Int} {tgt : Nat} (hd : decode M.2.1 pc = .ok (.if_icmp .eq off, 3)) (ht : (pc : Int) + off = (tgt : Int)) (kt : x = y → Z V M fr Q QX mc ms tgt L st G) (kf : ¬ x = y → Z V M fr Q QX mc ms (pc + 3) L st G) : Z V M fr Q QX mc ms pc L (.int y :: .int x :: st) G := by
  intro p e R s m args below meth c H locs cells slots CT ST ls C h1 h2 h3 h4 h5 h6 hS hR hl
  exact lv_icmp_eq C.1 C.2.1 hd ht (fun q => (kt q) p e R s m args below meth c H locs cells slots CT ST ls C h1 h2 h3 h4 h5 h6 hS hR hl) (fun q => kf q p e R s m args below meth c H locs cells slots CT ST ls C h1 h2 h3 h4 h5 h6 hS hR hl)
theorem Z.if_ne {V : zV} {M : zM} {fr : Nat} {Q : Option Value → zH → Prop} {QX : String → zH → Prop} {mc ms pc : Nat} {L : zLs} {st : List Value} {G : zH} {x : Int32} {off : Int} {tgt : Nat} (hd : decode M.2.1 pc = .ok (.ifCond .ne off, 3)) (ht : (pc : Int) + off = (tgt : Int)) (kt : ¬ x = 0 → Z V M fr Q QX mc ms tgt L st G) (kf : x = 0 → Z V M fr Q QX mc ms (pc + 3) L st G) : Z V M fr Q QX mc ms pc L (.int x :: st) G := by
  intro p e R s m args below meth c H locs cells slots CT ST ls C h1 h2 h3 h4 h5 h6 hS hR hl
  exact lv_if_ne C.1 C.2.1 hd ht (fun q => (kt q) p e R s m args below meth c H locs cells slots CT ST ls C h1 h2 h3 h4 h5 h6 hS hR hl) (fun q => kf q p e R s m args below meth c H locs cells slots CT ST ls C h1 h2 h3 h4 h5 h6 hS hR hl)
theorem Z.ic_ne {V : zV} {M : zM} {fr : Nat} {Q : Option Value → zH → Prop} {QX : String → zH → Prop} {mc ms pc : Nat} {L : zLs} {st : List Value} {G : zH} {x y : Int32} {off : Int} {tgt : Nat} (hd : decode M.2.1 pc = .ok (.if_icmp .ne off, 3)) (ht : (pc : Int) + off = (tgt : Int)) (kt : ¬ x = y → Z V M fr Q QX mc ms tgt L st G) (kf : x = y → Z V M fr Q QX mc ms (pc + 3) L st G) : Z V M fr Q QX mc ms pc L (.int y :: .int x :: st) G := by
  intro p e R s m args below meth c H locs cells slots CT ST ls C h1 h2 h3 h4 h5 h6 hS hR hl
  exact lv_icmp_ne C.1 C.2.1 hd ht (fun q => (kt q) p e R s m args below meth c H locs cells slots CT ST ls C h1 h2 h3 h4 h5 h6 hS hR hl) (fun q => kf q p e R s m args below meth c H locs cells slots CT ST ls C h1 h2 h3 h4 h5 h6 hS hR hl)
theorem Z.if_lt {V : zV} {M : zM} {fr : Nat} {Q : Option Value → zH → Prop} {QX : String → zH → Prop} {mc ms pc : Nat} {L : zLs} {st : List Value} {G : zH} {x : Int32} {off : Int} {tgt : Nat} (hd : decode M.2.1 pc = .ok (.ifCond .lt off, 3)) (ht : (pc : Int) + off = (tgt : Int)) (kt : x < 0 → Z V M fr Q QX mc ms tgt L st G) (kf : ¬ x < 0 → Z V M fr Q QX mc ms (pc + 3) L st G) : Z V M fr Q QX mc ms pc L (.int x :: st) G := by
  intro p e R s m args below meth c H locs cells slots CT ST ls C h1 h2 h3 h4 h5 h6 hS hR hl
  exact lv_if_lt C.1 C.2.1 hd ht (fun q => (kt q) p e R s m args below meth c H locs cells slots CT ST ls C h1 h2 h3 h4 h5 h6 hS hR hl) (fun q => kf q p e R s m args below meth c H locs cells slots CT ST ls C h1 h2 h3 h4 h5 h6 hS hR hl)
theorem Z.ic_lt {V : zV} {M : zM} {fr : Nat} {Q : Option Value → zH → Prop} {QX : String → zH → Prop} {mc ms pc : Nat} {L : zLs} {st : List Value} {G : zH} {x y : Int32} {off : Int} {tgt : Nat} (hd : decode M.2.1 pc = .ok (.if_icmp .lt off, 3)) (ht : (pc : Int) + off = (tgt : Int)) (kt : x < y → Z V M fr Q QX mc ms tgt L st G) (kf : ¬ x < y → Z V M fr Q QX mc ms (pc + 3) L st G) : Z V M fr Q QX mc ms pc L (.int y :: .int x :: st) G := by
  intro p e R s m args below meth c H locs cells slots CT ST ls C h1 h2 h3 h4 h5 h6 hS hR hl
  exact lv_icmp_lt C.1 C.2.1 hd ht (fun q => (kt q) p e R s m args below meth c H locs cells slots CT ST ls C h1 h2 h3 h4 h5 h6 hS hR hl) (fun q => kf q p e R s m args below meth c H locs cells slots CT ST ls C h1 h2 h3 h4 h5 h6 hS hR hl)
theorem Z.if_ge {V : zV} {M : zM} {fr : Nat} {Q : Option Value → zH → Prop} {QX : String → zH → Prop} {mc ms pc : Nat} {L : zLs} {st : List Value} {G : zH} {x : Int32} {off : Int} {tgt : Nat} (hd : decode M.2.1 pc = .ok (.ifCond .ge off, 3)) (ht : (pc : Int) + off = (tgt : Int)) (kt : 0 ≤ x → Z V M fr Q QX mc ms tgt L st G) (kf : ¬ 0 ≤ x → Z V M fr Q QX mc ms (pc + 3) L st G) : Z V M fr Q QX mc ms pc L (.int x :: st) G := by
  intro p e R s m args below meth c H locs cells slots CT ST ls C h1 h2 h3 h4 h5 h6 hS hR hl
  exact lv_if_ge C.1 C.2.1 hd ht (fun q => (kt q) p e R s m args below meth c H locs cells slots CT ST ls C h1 h2 h3 h4 h5 h6 hS hR hl) (fun q => kf q p e R s m args below meth c H locs cells slots CT ST ls C h1 h2 h3 h4 h5 h6 hS hR hl)
theorem Z.ic_ge {V : zV} {M : zM} {fr : Nat} {Q : Option Value → zH → Prop} {QX : String → zH → Prop} {mc ms pc : Nat} {L : zLs} {st : List Value} {G : zH} {x y : Int32} {off : Int} {tgt : Nat} (hd : decode M.2.1 pc = .ok (.if_icmp .ge off, 3)) (ht : (pc : Int) + off = (tgt : Int)) (kt : y ≤ x → Z V M fr Q QX mc ms tgt L st G) (kf : ¬ y ≤ x → Z V M fr Q QX mc ms (pc + 3) L st G) : Z V M fr Q QX mc ms pc L (.int y :: .int x :: st) G := by
  intro p e R s m args below meth c H locs cells slots CT ST ls C h1 h2 h3 h4 h5 h6 hS hR hl
  exact lv_icmp_ge C.1 C.2.1 hd ht (fun q => (kt q) p e R s m args below meth c H locs cells slots CT ST ls C h1 h2 h3 h4 h5 h6 hS hR hl) (fun q => kf q p e R s m args below meth c H locs cells slots CT ST ls C h1 h2 h3 h4 h5 h6 hS hR hl)
theorem Z.if_gt {V : zV} {M : zM} {fr : Nat} {Q : Option Value → zH → Prop} {QX : String → zH → Prop} {mc ms pc : Nat} {L : zLs} {st : List Value} {G : zH} {x : Int32} {off : Int} {tgt : Nat} (hd : decode M.2.1 pc = .ok (.ifCond .gt off, 3)) (ht : (pc : Int) + off = (tgt : Int)) (kt : 0 < x → Z V M fr Q QX mc ms tgt L st G) (kf : ¬ 0 < x → Z V M fr Q QX mc ms (pc + 3) L st G) : Z V M fr Q QX mc ms pc L (.int x :: st) G := by
  intro p e R s m args below meth c H locs cells slots CT ST ls C h1 h2 h3 h4 h5 h6 hS hR hl
  exact lv_if_gt C.1 C.2.1 hd ht (fun q => (kt q) p e R s m args below meth c H locs cells slots CT ST ls C h1 h2 h3 h4 h5 h6 hS hR hl) (fun q => kf q p e R s m args below meth c H locs cells slots CT ST ls C h1 h2 h3 h4 h5 h6 hS hR hl)
theorem Z.ic_gt {V : zV} {M : zM} {fr : Nat} {Q : Option Value → zH → Prop} {QX : String → zH → Prop} {mc ms pc : Nat} {L : zLs} {st : List Value} {G : zH} {x y : Int32} {off : Int} {tgt : Nat} (hd : decode M.2.1 pc = .ok (.if_icmp .gt off, 3)) (ht : (pc : Int) + off = (tgt : Int)) (kt : y < x → Z V M fr Q QX mc ms tgt L st G) (kf : ¬ y < x → Z V M fr Q QX mc ms (pc + 3) L st G) : Z V M fr Q QX mc ms pc L (.int y :: .int x :: st) G := by
  intro p e R s m args below meth c H locs cells slots CT ST ls C h1 h2 h3 h4 h5 h6 hS hR hl
  exact lv_icmp_gt C.1 C.2.1 hd ht (fun q => (kt q) p e R s m args below meth c H locs cells slots CT ST ls C h1 h2 h3 h4 h5 h6 hS hR hl) (fun q => kf q p e R s m args below meth c H locs cells slots CT ST ls C h1 h2 h3 h4 h5 h6 hS hR hl)
theorem Z.if_le {V : zV} {M : zM} {fr : Nat} {Q : Option Value → zH → Prop} {QX : String → zH → Prop} {mc ms pc : Nat} {L : zLs} {st : List Value} {G : zH} {x : Int32} {off : Int} {tgt : Nat} (hd : decode M.2.1 pc = .ok (.ifCond .le off, 3)) (ht : (pc : Int) + off = (tgt : Int)) (kt : x ≤ 0 → Z V M fr Q QX mc ms tgt L st G) (kf : ¬ x ≤ 0 → Z V M fr Q QX mc ms (pc + 3) L st G) : Z V M fr Q QX mc ms pc L (.int x :: st) G := by
  intro p e R s m args below meth c H locs cells slots CT ST ls C h1 h2 h3 h4 h5 h6 hS hR hl
  exact lv_if_le C.1 C.2.1 hd ht (fun q => (kt q) p e R s m args below meth c H locs cells slots CT ST ls C h1 h2 h3 h4 h5 h6 hS hR hl) (fun q => kf q p e R s m args below meth c H locs cells slots CT ST ls C h1 h2 h3 h4 h5 h6 hS hR hl)
theorem Z.ic_le {V : zV} {M : zM} {fr : Nat} {Q : Option Value → zH → Prop} {QX : String → zH → Prop} {mc ms pc : Nat} {L : zLs} {st : List Value} {G : zH} {x y : Int32} {off : Int} {tgt : Nat} (hd : decode M.2.1 pc = .ok (.if_icmp .le off, 3)) (ht : (pc : Int) + off = (tgt : Int)) (kt : x ≤ y → Z V M fr Q QX mc ms tgt L st G) (kf : ¬ x ≤ y → Z V M fr Q QX mc ms (pc + 3) L st G) : Z V M fr Q QX mc ms pc L (.int y :: .int x :: st) G := by
  intro p e R s m args below meth c H locs cells slots CT ST ls C h1 h2 h3 h4 h5 h6 hS hR hl
  exact lv_icmp_le C.1 C.2.1 hd ht (fun q => (kt q) p e R s m args below meth c H locs cells slots CT ST ls C h1 h2 h3 h4 h5 h6 hS hR hl) (fun q => kf q p e R s m args below meth c H locs cells slots CT ST ls C h1 h2 h3 h4 h5 h6 hS hR hl)
theorem Z.goto {V : zV} {M : zM} {fr : Nat} {Q : Option Value → zH → Prop} {QX : String → zH → Prop} {mc ms pc : Nat} {L : zLs} {st : List Value} {G : zH} {off : Int} {tgt : Nat} (hd : decode M.2.1 pc = .ok (.goto off, 3)) (ht : (pc : Int) + off = (tgt : Int)) (k : Z V M fr Q QX mc ms tgt L st G) : Z V M fr Q QX mc ms pc L st G := by
  intro p e R s m args below meth c H locs cells slots CT ST ls C h1 h2 h3 h4 h5 h6 hS hR hl
  exact lv_goto C.1 C.2.1 hd ht (k p e R s m args below meth c H locs cells slots CT ST ls C h1 h2 h3 h4 h5 h6 hS hR hl)
theorem Z.ifnull_r {V : zV} {M : zM} {fr : Nat} {Q : Option Value → zH → Prop} {QX : String → zH → Prop} {mc ms pc : Nat} {L : zLs} {st : List Value} {G : zH} {x : Nat} {off : Int} (hd : decode M.2.1 pc = .ok (.ifnull off, 3)) (k : Z V M fr Q QX mc ms (pc + 3) L st G) : Z V M fr Q QX mc ms pc L (.ref x :: st) G := by
  intro p e R s m args below meth c H locs cells slots CT ST ls C h1 h2 h3 h4 h5 h6 hS hR hl
  exact lv_ifnull C.1 C.2.1 hd (k p e R s m args below meth c H locs cells slots CT ST ls C h1 h2 h3 h4 h5 h6 hS hR hl)
theorem Z.ifnonnull_n {V : zV} {M : zM} {fr : Nat} {Q : Option Value → zH → Prop} {QX : String → zH → Prop} {mc ms pc : Nat} {L : zLs} {st : List Value} {G : zH} {x : Nat} {off : Int} (hd : decode M.2.1 pc = .ok (.ifnonnull off, 3)) (k : Z V M fr Q QX mc ms (pc + 3) L st G) : Z V M fr Q QX mc ms pc L (.null :: st) G := by
  intro p e R s m args below meth c H locs cells slots CT ST ls C h1 h2 h3 h4 h5 h6 hS hR hl
  exact lv_ifnonnullN C.1 C.2.1 hd (k p e R s m args below meth c H locs cells slots CT ST ls C h1 h2 h3 h4 h5 h6 hS hR hl)
theorem Z.ifnull_n {V : zV} {M : zM} {fr : Nat} {Q : Option Value → zH → Prop} {QX : String → zH → Prop} {mc ms pc : Nat} {L : zLs} {st : List Value} {G : zH} {x : Nat} {off : Int} {tgt : Nat} (hd : decode M.2.1 pc = .ok (.ifnull off, 3)) (ht : (pc : Int) + off = (tgt : Int)) (k : Z V M fr Q QX mc ms tgt L st G) : Z V M fr Q QX mc ms pc L (.null :: st) G := by
  intro p e R s m args below meth c H locs cells slots CT ST ls C h1 h2 h3 h4 h5 h6 hS hR hl
  exact lv_ifnullN C.1 C.2.1 hd ht (k p e R s m args below meth c H locs cells slots CT ST ls C h1 h2 h3 h4 h5 h6 hS hR hl)
theorem Z.ifnonnull_r {V : zV} {M : zM} {fr : Nat} {Q : Option Value → zH → Prop} {QX : String → zH → Prop} {mc ms pc : Nat} {L : zLs} {st : List Value} {G : zH} {x : Nat} {off : Int} {tgt : Nat} (hd : decode M.2.1 pc = .ok (.ifnonnull off, 3)) (ht : (pc : Int) + off = (tgt : Int)) (k : Z V M fr Q QX mc ms tgt L st G) : Z V M fr Q QX mc ms pc L (.ref x :: st) G := by
  intro p e R s m args below meth c H locs cells slots CT ST ls C h1 h2 h3 h4 h5 h6 hS hR hl
  exact lv_ifnonnull C.1 C.2.1 hd ht (k p e R s m args below meth c H locs cells slots CT ST ls C h1 h2 h3 h4 h5 h6 hS hR hl)
theorem Z.swIn {V : zV} {M : zM} {fr : Nat} {Q : Option Value → zH → Prop} {QX : String → zH → Prop} {mc ms pc : Nat} {L : zLs} {st : List Value} {G : zH} {dflt lo hi : Int} {offs : Array Int} {len : Nat} {x : Int32} {off : Int} {tgt : Nat} (hd : decode M.2.1 pc = .ok (.tableswitch dflt lo hi offs, len)) (g1 : ¬ x.toInt < lo) (g2 : ¬ hi < x.toInt) (ho : offs[(x.toInt - lo).toNat]? = some off) (ht : (pc : Int) + off = (tgt : Int)) (k : Z V M fr Q QX mc ms tgt L st G) : Z V M fr Q QX mc ms pc L (.int x :: st) G := by
  intro p e R s m args below meth c H locs cells slots CT ST ls C h1 h2 h3 h4 h5 h6 hS hR hl
  exact lv_tableIn C.1 C.2.1 hd g1 g2 ho ht (k p e R s m args below meth c H locs cells slots CT ST ls C h1 h2 h3 h4 h5 h6 hS hR hl)
theorem Z.swOut {V : zV} {M : zM} {fr : Nat} {Q : Option Value → zH → Prop} {QX : String → zH → Prop} {mc ms pc : Nat} {L : zLs} {st : List Value} {G : zH} {dflt lo hi : Int} {offs : Array Int} {len : Nat} {x : Int32} {tgt : Nat} (hd : decode M.2.1 pc = .ok (.tableswitch dflt lo hi offs, len)) (g : x.toInt < lo ∨ hi < x.toInt) (ht : (pc : Int) + dflt = (tgt : Int)) (k : Z V M fr Q QX mc ms tgt L st G) : Z V M fr Q QX mc ms pc L (.int x :: st) G := by
  intro p e R s m args below meth c H locs cells slots CT ST ls C h1 h2 h3 h4 h5 h6 hS hR hl
  exact lv_tableOut C.1 C.2.1 hd g ht (k p e R s m args below meth c H locs cells slots CT ST ls C h1 h2 h3 h4 h5 h6 hS hR hl)
theorem Z.idiv {V : zV} {M : zM} {fr : Nat} {Q : Option Value → zH → Prop} {QX : String → zH → Prop} {mc ms pc : Nat} {L : zLs} {st : List Value} {G : zH} {x y : Int32} (hd : decode M.2.1 pc = .ok (.idiv, 1)) (hne : ¬ y = 0) (k : Z V M fr Q QX mc ms (pc + 1) L (.int (x / y) :: st) G) : Z V M fr Q QX mc ms pc L (.int y :: .int x :: st) G := by
  intro p e R s m args below meth c H locs cells slots CT ST ls C h1 h2 h3 h4 h5 h6 hS hR hl
  exact lv_idiv C.1 C.2.1 hd hne (k p e R s m args below meth c H locs cells slots CT ST ls C h1 h2 h3 h4 h5 h6 hS hR hl)
theorem Z.irem {V : zV} {M : zM} {fr : Nat} {Q : Option Value → zH → Prop} {QX : String → zH → Prop} {mc ms pc : Nat} {L : zLs} {st : List Value} {G : zH} {x y : Int32} (hd : decode M.2.1 pc = .ok (.irem, 1)) (hne : ¬ y = 0) (k : Z V M fr Q QX mc ms (pc + 1) L (.int (x - x / y * y) :: st) G) : Z V M fr Q QX mc ms pc L (.int y :: .int x :: st) G := by
  intro p e R s m args below meth c H locs cells slots CT ST ls C h1 h2 h3 h4 h5 h6 hS hR hl
  exact lv_irem C.1 C.2.1 hd hne (k p e R s m args below meth c H locs cells slots CT ST ls C h1 h2 h3 h4 h5 h6 hS hR hl)
/-- what the pool of own says at idx: the field k of the class ci -/
def zFl (cl : List vw_C) (own : String) (idx ci k : Nat) (ty : FieldType) (fin : Bool) : Prop := ∃ (C : String) (T : u_T) (N : Nat) (ref : String) (t0 : Nat → FieldType),
  cl[ci]? = some (C, T, N) ∧ k < N ∧ (∀ w ∈ u_ws C T N, w ∈ zT) ∧ Cond.fieldLink own idx ref (T k).2.1 (T k).2.2.1 ∈ zT ∧ (ref = (T k).1 ∨ Cond.sameField ref (T k).1 (T k).2.1 (T k).2.2.1 ∈ zT) ∧
  (∀ j, j < N → parseFieldDescriptor (T j).2.2.1 = some (t0 j)) ∧ (∀ a, a < N → ∀ b, b < N → a ≠ b → (T a).2.1 ≠ (T b).2.1) ∧ (T k).2.2.2 = fin ∧ t0 k = ty ∧ (fin = true → (T k).1 = own)
theorem Z.getf {V : zV} {M : zM} {fr : Nat} {Q : Option Value → zH → Prop} {QX : String → zH → Prop} {mc ms pc : Nat} {L : zLs} {st : List Value} {G : zH} {a ci k idx : Nat} {fs : List Value} {v : Value} {ty : FieldType} {fin : Bool} (hf : zFl V.2.2.1 M.1.cls idx ci k ty fin) (hd : decode M.2.1 pc = .ok (.getfield idx, 3)) (hG : G.2 a = some (.inr (ci, fs))) (hv : fs[k]? = some v) (kk : Z V M fr Q QX mc ms (pc + 3) L (v :: st) G) : Z V M fr Q QX mc ms pc L (.ref a :: st) G := by
  intro p e R s m args below meth c H locs cells slots CT ST ls C h1 h2 h3 h4 h5 h6 hS hR hl
  obtain ⟨C0, T, N, ref, t0, hc, hk, hin, hlink, hsame, ht0, hnm, hfin, hty, hown2⟩ := hf
  have hts := C.2.2.2.2.2.2.2.1
  have hsm : ∀ x, s.fieldFound? (T k).1 (T k).2.1 (T k).2.2.1 = some x → s.fieldFound? ref (T k).2.1 (T k).2.2.1 = some x := by
    intro x hx
    rcases hsame with h | h
    · rw [h]; exact hx
    · exact u_same (hts _ h) x hx
  have hP : va_P V.2.1 V.2.2.1 [(a, .inr (ci, fs))] H := fun j q hq => by
    cases j with
    | zero => cases hq; exact (hR.2 a _ hG).2
    | succ j => cases hq
  exact va_get C.1 C.2.1 hts hin C.2.2.2.2.2.1 C.2.2.2.2.2.2.2.2.1 hP 0 rfl hc k hk (hts _ hlink) hsm hv hd (kk p e R s m args below meth c H locs cells slots CT ST ls C h1 h2 h3 h4 h5 h6 hS hR hl)
theorem Z.putf {V : zV} {M : zM} {fr : Nat} {Q : Option Value → zH → Prop} {QX : String → zH → Prop} {mc ms pc : Nat} {L : zLs} {st : List Value} {G : zH} {a ci k idx : Nat} {fs : List Value} {v : Value} {ty : FieldType} (hf : zFl V.2.2.1 M.1.cls idx ci k ty false) (hd : decode M.2.1 pc = .ok (.putfield idx, 3)) (hG : G.2 a = some (.inr (ci, fs))) (hlt : k < fs.length) (hn : narrow ty v = v) (hfit : fits ty v = true) (kk : Z V M fr Q QX mc ms (pc + 3) L st (zUp G a (.inr (ci, fs.set k v)))) : Z V M fr Q QX mc ms pc L (v :: .ref a :: st) G := by
  intro p e R s m args below meth c H locs cells slots CT ST ls C h1 h2 h3 h4 h5 h6 hS hR hl
  obtain ⟨C0, T, N, ref, t0, hc, hk, hin, hlink, hsame, ht0, hnm, hfin, hty, hown2⟩ := hf
  have hts := C.2.2.2.2.2.2.2.1
  have hK : va_K V.2.1 V.2.2.1 (zTy V.2.1 V.2.2.2.1) s := C.2.2.2.2.2.2.2.2.1
  have hsm : ∀ x, s.fieldFound? (T k).1 (T k).2.1 (T k).2.2.1 = some x → s.fieldFound? ref (T k).2.1 (T k).2.2.1 = some x := by
    intro x hx
    rcases hsame with h | h
    · rw [h]; exact hx
    · exact u_same (hts _ h) x hx
  have hap := va_apart (own := M.1.cls) hts hin t0 ht0 hnm hK hc
  obtain ⟨hBa, r, g1, cell, q1, q2, q3, q4⟩ := hR.2 a _ hG
  have hr : r = (C0, T, N) := Option.some.inj (g1.symm.trans hc)
  subst hr
  obtain ⟨hSl, hfc, kC, hkC, hkind⟩ := hK.1 ci _ hc
  obtain ⟨cf, kf, fi, f, hi, hsl⟩ := hSl k hk
  have hlay := hts _ (hin _ (u_in_lay hk))
  unfold u_lay at hlay
  have hst := (u_facts hfc hkC (u_lays hts hin hk) hi).1
  have hdd : parseFieldDescriptor (T k).2.2.1 = some ty := by rw [ht0 k hk, hty]
  rw [if_neg (by rw [hfin]; decide)] at hlay
  have h9 := u_store hfc hkC hkind hlay hi hdd hn hfit
  refine W.putK C.1 C.2.1 (f := f) ⟨C.2.2.2.2.2.1, hts _ hlink, ⟨_, _, _, hsm _ hi⟩, hst⟩ (by rw [q2]; exact h9) q1 q3 (by rw [hsl]; exact k2_hasslot (q4 k hk)) rfl rfl hd fun H' e1 e2 e3 => ?_
  rw [hsl] at e1 ⊢
  refine kk p e R s m args below meth c H' _ cells slots CT ST ls C h1 h2 h3 h4 h5 h6 (hS.put1 hBa e2 e3) (hR.up hBa ?_ e2 e3) hl
  exact ⟨_, hc, t_OB.to (V := updV (vp_V fs) k v) ⟨_, e1, q2, q3, t_set q4 hap hk v⟩ (fun j _ => vp_updV_set hlt v j)⟩

