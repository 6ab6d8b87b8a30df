def f_M_thrown (G : gH) (a0 : Nat) : gR := gFI G a0 6 0 fun v => rI v G
theorem k_M_thrown {l : Launch} {D : va_G} {B : Nat} {O : State → Heap → Prop} (hV : zG l D B O) (G : gH) (a0 : Nat) : gMet (zVm l D B O) m_M_thrown 1 [.ref a0] G (f_M_thrown G a0) := by
  refine gMet.of (by decide +kernel) (Nat.le_of_ble_eq_true rfl) [some (.ref a0)] (fun ls h => zEn_ok (n := 1) h) ?_
  intro o Gf h
  unfold f_M_thrown at h
  refine Y.blk (pc' := 1) (L' := [some (.ref a0)]) (st' := [.ref a0]) (sg := [(.aload_n 0, 0)]) (by decide +kernel) rfl ?_
  refine Y.getI fl_M_32 (by decide +kernel) h (fun v4 h => ?_)
  exact Y.iret rfl (by decide +kernel) h
theorem Z.lawT {l : Launch} {D : va_G} {B : Nat} {O : State → Heap → Prop} {M : zM} {fr : Nat} {Q : Option Value → zH → Prop} {QX : String → zH → Prop} {mc ms pc : Nat} {L : zLs} {st : List Value} {G : zH} {o idx : Nat} {x : Int32} {fs : List Value} (hV : zG l D B O) (hG : G.2 o = some (.inr (6, .int x :: fs))) (hlk : Cond.methodLink M.1.cls idx m_M_thrown.1 ∈ zT) (hd : decode M.2.1 pc = .ok (.invokevirtual idx, 3)) (hLl : L.length = M.2.2.1) (hcat : (st.map fun v => v.category).sum ≤ 8) (hf9 : 2 ≤ fr)
    (kk : Z (zVm l D B O) M fr Q QX mc ms (pc + 3) L (.int x :: st) G) : Z (zVm l D B O) M fr Q QX mc ms pc L (.ref o :: st) G := by
  have hr : f_M_thrown (0, G) o = some (.inr (some (.int x)), (0, G)) := by
    unfold f_M_thrown gFI
    rw [gOb_of (G := (0, G)) hG rfl]
    rfl
  have k9 := Z.lawM (kc := 0) (ks := 0) (As := []) (st := st) (n := 0) (ci := 6) (rc := ("PartlisterModel", T_M, 9)) hV.1 (k_M_thrown hV (0, G) o) hr (Nat.le_refl _) (Nat.le_refl _) cb_M_thrown hlk in_M_thrown rfl se_M_thrown hG rfl hd rfl hLl hcat hf9 kk
  exact k9
