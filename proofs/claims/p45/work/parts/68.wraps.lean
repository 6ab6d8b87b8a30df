theorem pln100 : "PartlisterLaw" ≠ "java/lang/invoke/MethodHandle" ∧ "PartlisterLaw" ≠ "java/lang/invoke/VarHandle" := ⟨by decide +kernel, by decide +kernel⟩
theorem pld101 : (parseMethodDescriptor "(LPartlister;IILPartlisterLaw$Out;)I").map (fun d => d.parameters.length) = some 4 := by decide +kernel
theorem pld102 : (parseMethodDescriptor "(LPartlister;IIILPartlisterLaw$Out;)I").map (fun d => d.parameters.length) = some 5 := by decide +kernel
theorem pld103 : (parseMethodDescriptor "(LPartlister;ILPartlisterLaw$Out;)I").map (fun d => d.parameters.length) = some 3 := by decide +kernel
theorem pld104 : (parseMethodDescriptor "(LPartlister;IZLPartlisterLaw$Out;)I").map (fun d => d.parameters.length) = some 4 := by decide +kernel
theorem fn_L_13 : zFn zCl "PartlisterLaw" 13 7 0 .long "PartlisterLaw" := ⟨"PartlisterLaw$Out", T_O, 2, y_O, rfl, by decide, uw_O, zU2 112 (by decide +kernel) rfl, ty_O, nm_O, rfl, rfl⟩
theorem fn_L_155 : zFn zCl "PartlisterLaw" 155 7 1 (.object "java/lang/String") "PartlisterLaw" := ⟨"PartlisterLaw$Out", T_O, 2, y_O, rfl, by decide, uw_O, zU2 113 (by decide +kernel) rfl, ty_O, nm_O, rfl, rfl⟩
theorem ca_IOE : Cond.castable "java/lang/IndexOutOfBoundsException" "java/lang/IndexOutOfBoundsException" ∈ zT := zU2 135 (by decide +kernel) rfl
theorem ca_IAE : Cond.castable "java/lang/IllegalArgumentException" "java/lang/IllegalArgumentException" ∈ zT := zU2 207 (by decide +kernel) rfl
theorem ca_ISE : Cond.castable "java/lang/IllegalStateException" "java/lang/IllegalStateException" ∈ zT := zU2 228 (by decide +kernel) rfl
def m_L_add : zM := (⟨"PartlisterLaw", "add", "(LPartlister;IILPartlisterLaw$Out;)I"⟩, method_2_code, 5, some .int)
def hh_add : zHh := [(0, 11, 14, 19), (0, 11, 18, 21), (0, 11, 22, 23)]
theorem cb_L_add : zCbh m_L_add hh_add 4 := ⟨zU2 121 (cChkW_ok (by decide +kernel)) g_codeWith, ini_L, pln100, pld101, by decide⟩
theorem st_L_add : Cond.static m_L_add.1 ∈ zT := zU2 120 (by decide +kernel) g_static
theorem lk_L_173 : Cond.methodLink "PartlisterLaw" 173 m_L_add.1 ∈ zT := zU2 119 (by decide +kernel) g_methodLink
set_option maxRecDepth 20000 in
theorem h_add {l : Launch} {D : va_G} {B : Nat} {O : State → Heap → Prop} (hV : zG l D B O) (hN : zNo O) (G : gH) (b q : Nat) (a1 : Int32) (a2 : Int32) {fs fq : List Value} (hb : G.2.2 b = some (.inr (3, fs))) {c : Nat} {a : Int32} {H1 : gH} (hc : c ≤ 3) (hF : f_X_add G b a1 a2 = oV xIAS c (.int a) H1) (h1 : H1.1 ≤ G.1 + 840) (h2 : H1.2.1 ≤ G.2.1 + 8) (h3 : G.2.1 ≤ H1.2.1) (hq : H1.2.2 q = some (.inr (7, fq))) (hl : fq.length = 2) : zMeh (zVm l D B O) m_L_add hh_add 8 9 846 [.ref b, .int a1, .int a2, .ref q] G.2 (wQ q c 0 (.long a.toInt64) H1) (fun _ _ => False) := by
  refine zMeh.of (by decide +kernel) (Nat.le_of_ble_eq_true rfl) [some (.ref b), some (.int a1), some (.int a2), some (.ref q), none] (fun ls h => zEn_ok (n := 5) h) ?_
  refine Zh.blk (pc' := 4) (L' := [some (.ref b), some (.int a1), some (.int a2), some (.ref q), none]) (st' := [.int a2, .int a1, .ref b, .ref q]) (sg := [(.aload_n 3, 0), (.aload_n 0, 0), (.iload_n 1, 0), (.iload_n 2, 0)]) (by decide +kernel) rfl ?_
  refine Zh.oV (E := xIAS) (As := [.int a1, .int a2]) (b := b) (st := [.ref q]) (n := 2) (a := .int a) hV.1 (k_X_add hV G b a1 a2) hF h1 h2 h3 cb_X_add lk_L_7 in_X_add se_X_add hb (by decide +kernel) rfl rfl (Nat.le_of_ble_eq_true rfl) (Nat.le_refl _) (fun h0 => ?_) (fun h0 => ?_)
  · obtain rfl | rfl | rfl : c = 1 ∨ c = 2 ∨ c = 3 := by omega
    · exact ⟨14, ⟨[], [⟨0, 11, 18, 21⟩, ⟨0, 11, 22, 23⟩], ⟨0, 11, 14, 19⟩, _, rfl, fun z hz => absurd hz List.not_mem_nil, by decide, by decide, ck_L_19, ca_IOE, rfl⟩, fun G' q9 g1 g2 g3 => Zh.blk (pc' := 17) (L' := [some (.ref b), some (.int a1), some (.int a2), some (.ref q), some (.ref q9)]) (st' := [.int (nI 1)]) (sg := [(.astore 4, 0), (.iconst 1, nI 1)]) (by decide +kernel) rfl (Zh.iret rfl rfl (by decide +kernel) ⟨rfl, g2, fun z _ => by rw [g3], fq, by rw [g3]; exact hq, hl, fun h9 => absurd h9 (by decide)⟩)⟩
    · exact ⟨18, ⟨[⟨0, 11, 14, 19⟩], [⟨0, 11, 22, 23⟩], ⟨0, 11, 18, 21⟩, _, rfl, List.forall_mem_cons.mpr ⟨⟨by decide, _, ck_L_19, fun U H h9 => (hN U H h9).1⟩, fun z hz => absurd hz List.not_mem_nil⟩, by decide, by decide, ck_L_21, ca_IAE, rfl⟩, fun G' q9 g1 g2 g3 => Zh.blk (pc' := 21) (L' := [some (.ref b), some (.int a1), some (.int a2), some (.ref q), some (.ref q9)]) (st' := [.int (nI 2)]) (sg := [(.astore 4, 0), (.iconst 2, nI 2)]) (by decide +kernel) rfl (Zh.iret rfl rfl (by decide +kernel) ⟨rfl, g2, fun z _ => by rw [g3], fq, by rw [g3]; exact hq, hl, fun h9 => absurd h9 (by decide)⟩)⟩
    · exact ⟨22, ⟨[⟨0, 11, 14, 19⟩, ⟨0, 11, 18, 21⟩], [], ⟨0, 11, 22, 23⟩, _, rfl, List.forall_mem_cons.mpr ⟨⟨by decide, _, ck_L_19, fun U H h9 => (hN U H h9).2.1⟩, List.forall_mem_cons.mpr ⟨⟨by decide, _, ck_L_21, fun U H h9 => (hN U H h9).2.2⟩, fun z hz => absurd hz List.not_mem_nil⟩⟩, by decide, by decide, ck_L_23, ca_ISE, rfl⟩, fun G' q9 g1 g2 g3 => Zh.blk (pc' := 25) (L' := [some (.ref b), some (.int a1), some (.int a2), some (.ref q), some (.ref q9)]) (st' := [.int (nI 3)]) (sg := [(.astore 4, 0), (.iconst 3, nI 3)]) (by decide +kernel) rfl (Zh.iret rfl rfl (by decide +kernel) ⟨rfl, g2, fun z _ => by rw [g3], fq, by rw [g3]; exact hq, hl, fun h9 => absurd h9 (by decide)⟩)⟩
  · subst h0
    refine Zh.blk (pc' := 8) (L' := [some (.ref b), some (.int a1), some (.int a2), some (.ref q), none]) (st' := [.long a.toInt64, .ref q]) (sg := [(.i2l, 0)]) (by decide +kernel) rfl ?_
    refine Zh.putn (fs := fq) (ty := .long) (v := .long a.toInt64) fn_L_13 (by decide) (by decide +kernel) hq (by rw [hl]; decide) rfl rfl ?_
    refine Zh.goto (off := 15) (tgt := 26) (by decide +kernel) (by decide) ?_
    refine Zh.blk (pc' := 27) (L' := [some (.ref b), some (.int a1), some (.int a2), some (.ref q), none]) (st' := [.int (nI 0)]) (sg := [(.iconst 0, nI 0)]) (by decide +kernel) rfl ?_
    exact Zh.iret rfl rfl (by decide +kernel) ⟨rfl, Nat.le_refl _, fun z hz => zUp_ne _ _ hz, _, zUp_at _ _ _, by rw [List.length_set]; exact hl, fun _ => by rw [List.getElem?_set_self (by rw [hl]; decide)]⟩
def m_L_addAt : zM := (⟨"PartlisterLaw", "addAt", "(LPartlister;IIILPartlisterLaw$Out;)I"⟩, method_3_code, 6, some .int)
def hh_addAt : zHh := [(0, 13, 16, 19), (0, 13, 20, 21), (0, 13, 24, 23)]
theorem cb_L_addAt : zCbh m_L_addAt hh_addAt 5 := ⟨zU3 58 (cChkW_ok (by decide +kernel)) g_codeWith, ini_L, pln100, pld102, by decide⟩
theorem st_L_addAt : Cond.static m_L_addAt.1 ∈ zT := zU3 57 (by decide +kernel) g_static
theorem lk_L_179 : Cond.methodLink "PartlisterLaw" 179 m_L_addAt.1 ∈ zT := zU3 56 (by decide +kernel) g_methodLink
set_option maxRecDepth 20000 in
theorem h_addAt {l : Launch} {D : va_G} {B : Nat} {O : State → Heap → Prop} (hV : zG l D B O) (hN : zNo O) (G : gH) (b q : Nat) (a1 : Int32) (a2 : Int32) (a3 : Int32) {fs fq : List Value} (hb : G.2.2 b = some (.inr (3, fs))) {c : Nat} {a : Int32} {H1 : gH} (hc : c ≤ 3) (hF : f_X_addAt G b a1 a2 a3 = oV xIAS c (.int a) H1) (h1 : H1.1 ≤ G.1 + 840) (h2 : H1.2.1 ≤ G.2.1 + 8) (h3 : G.2.1 ≤ H1.2.1) (hq : H1.2.2 q = some (.inr (7, fq))) (hl : fq.length = 2) : zMeh (zVm l D B O) m_L_addAt hh_addAt 8 9 846 [.ref b, .int a1, .int a2, .int a3, .ref q] G.2 (wQ q c 0 (.long a.toInt64) H1) (fun _ _ => False) := by
  refine zMeh.of (by decide +kernel) (Nat.le_of_ble_eq_true rfl) [some (.ref b), some (.int a1), some (.int a2), some (.int a3), some (.ref q), none] (fun ls h => zEn_ok (n := 6) h) ?_
  refine Zh.blk (pc' := 6) (L' := [some (.ref b), some (.int a1), some (.int a2), some (.int a3), some (.ref q), none]) (st' := [.int a3, .int a2, .int a1, .ref b, .ref q]) (sg := [(.aload 4, 0), (.aload_n 0, 0), (.iload_n 1, 0), (.iload_n 2, 0), (.iload_n 3, 0)]) (by decide +kernel) rfl ?_
  refine Zh.oV (E := xIAS) (As := [.int a1, .int a2, .int a3]) (b := b) (st := [.ref q]) (n := 3) (a := .int a) hV.1 (k_X_addAt hV G b a1 a2 a3) hF h1 h2 h3 cb_X_addAt lk_L_25 in_X_addAt se_X_addAt hb (by decide +kernel) rfl rfl (Nat.le_of_ble_eq_true rfl) (Nat.le_refl _) (fun h0 => ?_) (fun h0 => ?_)
  · obtain rfl | rfl | rfl : c = 1 ∨ c = 2 ∨ c = 3 := by omega
    · exact ⟨16, ⟨[], [⟨0, 13, 20, 21⟩, ⟨0, 13, 24, 23⟩], ⟨0, 13, 16, 19⟩, _, rfl, fun z hz => absurd hz List.not_mem_nil, by decide, by decide, ck_L_19, ca_IOE, rfl⟩, fun G' q9 g1 g2 g3 => Zh.blk (pc' := 19) (L' := [some (.ref b), some (.int a1), some (.int a2), some (.int a3), some (.ref q), some (.ref q9)]) (st' := [.int (nI 1)]) (sg := [(.astore 5, 0), (.iconst 1, nI 1)]) (by decide +kernel) rfl (Zh.iret rfl rfl (by decide +kernel) ⟨rfl, g2, fun z _ => by rw [g3], fq, by rw [g3]; exact hq, hl, fun h9 => absurd h9 (by decide)⟩)⟩
    · exact ⟨20, ⟨[⟨0, 13, 16, 19⟩], [⟨0, 13, 24, 23⟩], ⟨0, 13, 20, 21⟩, _, rfl, List.forall_mem_cons.mpr ⟨⟨by decide, _, ck_L_19, fun U H h9 => (hN U H h9).1⟩, fun z hz => absurd hz List.not_mem_nil⟩, by decide, by decide, ck_L_21, ca_IAE, rfl⟩, fun G' q9 g1 g2 g3 => Zh.blk (pc' := 23) (L' := [some (.ref b), some (.int a1), some (.int a2), some (.int a3), some (.ref q), some (.ref q9)]) (st' := [.int (nI 2)]) (sg := [(.astore 5, 0), (.iconst 2, nI 2)]) (by decide +kernel) rfl (Zh.iret rfl rfl (by decide +kernel) ⟨rfl, g2, fun z _ => by rw [g3], fq, by rw [g3]; exact hq, hl, fun h9 => absurd h9 (by decide)⟩)⟩
    · exact ⟨24, ⟨[⟨0, 13, 16, 19⟩, ⟨0, 13, 20, 21⟩], [], ⟨0, 13, 24, 23⟩, _, rfl, List.forall_mem_cons.mpr ⟨⟨by decide, _, ck_L_19, fun U H h9 => (hN U H h9).2.1⟩, List.forall_mem_cons.mpr ⟨⟨by decide, _, ck_L_21, fun U H h9 => (hN U H h9).2.2⟩, fun z hz => absurd hz List.not_mem_nil⟩⟩, by decide, by decide, ck_L_23, ca_ISE, rfl⟩, fun G' q9 g1 g2 g3 => Zh.blk (pc' := 27) (L' := [some (.ref b), some (.int a1), some (.int a2), some (.int a3), some (.ref q), some (.ref q9)]) (st' := [.int (nI 3)]) (sg := [(.astore 5, 0), (.iconst 3, nI 3)]) (by decide +kernel) rfl (Zh.iret rfl rfl (by decide +kernel) ⟨rfl, g2, fun z _ => by rw [g3], fq, by rw [g3]; exact hq, hl, fun h9 => absurd h9 (by decide)⟩)⟩
  · subst h0
    refine Zh.blk (pc' := 10) (L' := [some (.ref b), some (.int a1), some (.int a2), some (.int a3), some (.ref q), none]) (st' := [.long a.toInt64, .ref q]) (sg := [(.i2l, 0)]) (by decide +kernel) rfl ?_
    refine Zh.putn (fs := fq) (ty := .long) (v := .long a.toInt64) fn_L_13 (by decide) (by decide +kernel) hq (by rw [hl]; decide) rfl rfl ?_
    refine Zh.goto (off := 15) (tgt := 28) (by decide +kernel) (by decide) ?_
    refine Zh.blk (pc' := 29) (L' := [some (.ref b), some (.int a1), some (.int a2), some (.int a3), some (.ref q), none]) (st' := [.int (nI 0)]) (sg := [(.iconst 0, nI 0)]) (by decide +kernel) rfl ?_
    exact Zh.iret rfl rfl (by decide +kernel) ⟨rfl, Nat.le_refl _, fun z hz => zUp_ne _ _ hz, _, zUp_at _ _ _, by rw [List.length_set]; exact hl, fun _ => by rw [List.getElem?_set_self (by rw [hl]; decide)]⟩
def m_L_addAll : zM := (⟨"PartlisterLaw", "addAll", "(LPartlister;IIILPartlisterLaw$Out;)I"⟩, method_4_code, 6, some .int)
def hh_addAll : zHh := [(0, 13, 16, 19), (0, 13, 20, 23)]
theorem cb_L_addAll : zCbh m_L_addAll hh_addAll 5 := ⟨zU3 70 (cChkW_ok (by decide +kernel)) g_codeWith, ini_L, pln100, pld102, by decide⟩
theorem st_L_addAll : Cond.static m_L_addAll.1 ∈ zT := zU3 69 (by decide +kernel) g_static
theorem lk_L_183 : Cond.methodLink "PartlisterLaw" 183 m_L_addAll.1 ∈ zT := zU3 68 (by decide +kernel) g_methodLink
set_option maxRecDepth 20000 in
theorem h_addAll {l : Launch} {D : va_G} {B : Nat} {O : State → Heap → Prop} (hV : zG l D B O) (hN : zNo O) (G : gH) (b q : Nat) (a1 : Int32) (a2 : Int32) (a3 : Int32) {fs fq : List Value} (hb : G.2.2 b = some (.inr (3, fs))) {c : Nat} {a : Int32} {H1 : gH} (hc : c ≤ 2) (hF : f_X_addAll G b a1 a2 a3 = oV xIS c (.int a) H1) (h1 : H1.1 ≤ G.1 + 840) (h2 : H1.2.1 ≤ G.2.1 + 8) (h3 : G.2.1 ≤ H1.2.1) (hq : H1.2.2 q = some (.inr (7, fq))) (hl : fq.length = 2) : zMeh (zVm l D B O) m_L_addAll hh_addAll 8 9 846 [.ref b, .int a1, .int a2, .int a3, .ref q] G.2 (wQ q c 0 (.long a.toInt64) H1) (fun _ _ => False) := by
  refine zMeh.of (by decide +kernel) (Nat.le_of_ble_eq_true rfl) [some (.ref b), some (.int a1), some (.int a2), some (.int a3), some (.ref q), none] (fun ls h => zEn_ok (n := 6) h) ?_
  refine Zh.blk (pc' := 6) (L' := [some (.ref b), some (.int a1), some (.int a2), some (.int a3), some (.ref q), none]) (st' := [.int a3, .int a2, .int a1, .ref b, .ref q]) (sg := [(.aload 4, 0), (.aload_n 0, 0), (.iload_n 1, 0), (.iload_n 2, 0), (.iload_n 3, 0)]) (by decide +kernel) rfl ?_
  refine Zh.oV (E := xIS) (As := [.int a1, .int a2, .int a3]) (b := b) (st := [.ref q]) (n := 3) (a := .int a) hV.1 (k_X_addAll hV G b a1 a2 a3) hF h1 h2 h3 cb_X_addAll lk_L_29 in_X_addAll se_X_addAll hb (by decide +kernel) rfl rfl (Nat.le_of_ble_eq_true rfl) (Nat.le_refl _) (fun h0 => ?_) (fun h0 => ?_)
  · obtain rfl | rfl : c = 1 ∨ c = 2 := by omega
    · exact ⟨16, ⟨[], [⟨0, 13, 20, 23⟩], ⟨0, 13, 16, 19⟩, _, rfl, fun z hz => absurd hz List.not_mem_nil, by decide, by decide, ck_L_19, ca_IOE, rfl⟩, fun G' q9 g1 g2 g3 => Zh.blk (pc' := 19) (L' := [some (.ref b), some (.int a1), some (.int a2), some (.int a3), some (.ref q), some (.ref q9)]) (st' := [.int (nI 1)]) (sg := [(.astore 5, 0), (.iconst 1, nI 1)]) (by decide +kernel) rfl (Zh.iret rfl rfl (by decide +kernel) ⟨rfl, g2, fun z _ => by rw [g3], fq, by rw [g3]; exact hq, hl, fun h9 => absurd h9 (by decide)⟩)⟩
    · exact ⟨20, ⟨[⟨0, 13, 16, 19⟩], [], ⟨0, 13, 20, 23⟩, _, rfl, List.forall_mem_cons.mpr ⟨⟨by decide, _, ck_L_19, fun U H h9 => (hN U H h9).2.1⟩, fun z hz => absurd hz List.not_mem_nil⟩, by decide, by decide, ck_L_23, ca_ISE, rfl⟩, fun G' q9 g1 g2 g3 => Zh.blk (pc' := 23) (L' := [some (.ref b), some (.int a1), some (.int a2), some (.int a3), some (.ref q), some (.ref q9)]) (st' := [.int (nI 2)]) (sg := [(.astore 5, 0), (.iconst 2, nI 2)]) (by decide +kernel) rfl (Zh.iret rfl rfl (by decide +kernel) ⟨rfl, g2, fun z _ => by rw [g3], fq, by rw [g3]; exact hq, hl, fun h9 => absurd h9 (by decide)⟩)⟩
  · subst h0
    refine Zh.blk (pc' := 10) (L' := [some (.ref b), some (.int a1), some (.int a2), some (.int a3), some (.ref q), none]) (st' := [.long a.toInt64, .ref q]) (sg := [(.i2l, 0)]) (by decide +kernel) rfl ?_
    refine Zh.putn (fs := fq) (ty := .long) (v := .long a.toInt64) fn_L_13 (by decide) (by decide +kernel) hq (by rw [hl]; decide) rfl rfl ?_
    refine Zh.goto (off := 11) (tgt := 24) (by decide +kernel) (by decide) ?_
    refine Zh.blk (pc' := 25) (L' := [some (.ref b), some (.int a1), some (.int a2), some (.int a3), some (.ref q), none]) (st' := [.int (nI 0)]) (sg := [(.iconst 0, nI 0)]) (by decide +kernel) rfl ?_
    exact Zh.iret rfl rfl (by decide +kernel) ⟨rfl, Nat.le_refl _, fun z hz => zUp_ne _ _ hz, _, zUp_at _ _ _, by rw [List.length_set]; exact hl, fun _ => by rw [List.getElem?_set_self (by rw [hl]; decide)]⟩
def m_L_append : zM := (⟨"PartlisterLaw", "append", "(LPartlister;IILPartlisterLaw$Out;)I"⟩, method_5_code, 5, some .int)
def hh_append : zHh := [(0, 11, 14, 19), (0, 11, 18, 23)]
theorem cb_L_append : zCbh m_L_append hh_append 4 := ⟨zU3 86 (cChkW_ok (by decide +kernel)) g_codeWith, ini_L, pln100, pld101, by decide⟩
theorem st_L_append : Cond.static m_L_append.1 ∈ zT := zU3 85 (by decide +kernel) g_static
theorem lk_L_186 : Cond.methodLink "PartlisterLaw" 186 m_L_append.1 ∈ zT := zU3 84 (by decide +kernel) g_methodLink
set_option maxRecDepth 20000 in
theorem h_append {l : Launch} {D : va_G} {B : Nat} {O : State → Heap → Prop} (hV : zG l D B O) (hN : zNo O) (G : gH) (b q : Nat) (a1 : Int32) (a2 : Int32) {fs fq : List Value} (hb : G.2.2 b = some (.inr (3, fs))) {c : Nat} {a : Int32} {H1 : gH} (hc : c ≤ 2) (hF : f_X_append G b a1 a2 = oV xIS c (.int a) H1) (h1 : H1.1 ≤ G.1 + 840) (h2 : H1.2.1 ≤ G.2.1 + 8) (h3 : G.2.1 ≤ H1.2.1) (hq : H1.2.2 q = some (.inr (7, fq))) (hl : fq.length = 2) : zMeh (zVm l D B O) m_L_append hh_append 8 9 846 [.ref b, .int a1, .int a2, .ref q] G.2 (wQ q c 0 (.long a.toInt64) H1) (fun _ _ => False) := by
  refine zMeh.of (by decide +kernel) (Nat.le_of_ble_eq_true rfl) [some (.ref b), some (.int a1), some (.int a2), some (.ref q), none] (fun ls h => zEn_ok (n := 5) h) ?_
  refine Zh.blk (pc' := 4) (L' := [some (.ref b), some (.int a1), some (.int a2), some (.ref q), none]) (st' := [.int a2, .int a1, .ref b, .ref q]) (sg := [(.aload_n 3, 0), (.aload_n 0, 0), (.iload_n 1, 0), (.iload_n 2, 0)]) (by decide +kernel) rfl ?_
  refine Zh.oV (E := xIS) (As := [.int a1, .int a2]) (b := b) (st := [.ref q]) (n := 2) (a := .int a) hV.1 (k_X_append hV G b a1 a2) hF h1 h2 h3 cb_X_append lk_L_32 in_X_append se_X_append hb (by decide +kernel) rfl rfl (Nat.le_of_ble_eq_true rfl) (Nat.le_refl _) (fun h0 => ?_) (fun h0 => ?_)
  · obtain rfl | rfl : c = 1 ∨ c = 2 := by omega
    · exact ⟨14, ⟨[], [⟨0, 11, 18, 23⟩], ⟨0, 11, 14, 19⟩, _, rfl, fun z hz => absurd hz List.not_mem_nil, by decide, by decide, ck_L_19, ca_IOE, rfl⟩, fun G' q9 g1 g2 g3 => Zh.blk (pc' := 17) (L' := [some (.ref b), some (.int a1), some (.int a2), some (.ref q), some (.ref q9)]) (st' := [.int (nI 1)]) (sg := [(.astore 4, 0), (.iconst 1, nI 1)]) (by decide +kernel) rfl (Zh.iret rfl rfl (by decide +kernel) ⟨rfl, g2, fun z _ => by rw [g3], fq, by rw [g3]; exact hq, hl, fun h9 => absurd h9 (by decide)⟩)⟩
    · exact ⟨18, ⟨[⟨0, 11, 14, 19⟩], [], ⟨0, 11, 18, 23⟩, _, rfl, List.forall_mem_cons.mpr ⟨⟨by decide, _, ck_L_19, fun U H h9 => (hN U H h9).2.1⟩, fun z hz => absurd hz List.not_mem_nil⟩, by decide, by decide, ck_L_23, ca_ISE, rfl⟩, fun G' q9 g1 g2 g3 => Zh.blk (pc' := 21) (L' := [some (.ref b), some (.int a1), some (.int a2), some (.ref q), some (.ref q9)]) (st' := [.int (nI 2)]) (sg := [(.astore 4, 0), (.iconst 2, nI 2)]) (by decide +kernel) rfl (Zh.iret rfl rfl (by decide +kernel) ⟨rfl, g2, fun z _ => by rw [g3], fq, by rw [g3]; exact hq, hl, fun h9 => absurd h9 (by decide)⟩)⟩
  · subst h0
    refine Zh.blk (pc' := 8) (L' := [some (.ref b), some (.int a1), some (.int a2), some (.ref q), none]) (st' := [.long a.toInt64, .ref q]) (sg := [(.i2l, 0)]) (by decide +kernel) rfl ?_
    refine Zh.putn (fs := fq) (ty := .long) (v := .long a.toInt64) fn_L_13 (by decide) (by decide +kernel) hq (by rw [hl]; decide) rfl rfl ?_
    refine Zh.goto (off := 11) (tgt := 22) (by decide +kernel) (by decide) ?_
    refine Zh.blk (pc' := 23) (L' := [some (.ref b), some (.int a1), some (.int a2), some (.ref q), none]) (st' := [.int (nI 0)]) (sg := [(.iconst 0, nI 0)]) (by decide +kernel) rfl ?_
    exact Zh.iret rfl rfl (by decide +kernel) ⟨rfl, Nat.le_refl _, fun z hz => zUp_ne _ _ hz, _, zUp_at _ _ _, by rw [List.length_set]; exact hl, fun _ => by rw [List.getElem?_set_self (by rw [hl]; decide)]⟩
def m_L_set : zM := (⟨"PartlisterLaw", "set", "(LPartlister;IIILPartlisterLaw$Out;)I"⟩, method_6_code, 6, some .int)
def hh_set : zHh := [(0, 13, 16, 19), (0, 13, 20, 21)]
theorem cb_L_set : zCbh m_L_set hh_set 5 := ⟨zU3 93 (cChkW_ok (by decide +kernel)) g_codeWith, ini_L, pln100, pld102, by decide⟩
theorem st_L_set : Cond.static m_L_set.1 ∈ zT := zU3 92 (by decide +kernel) g_static
theorem lk_L_189 : Cond.methodLink "PartlisterLaw" 189 m_L_set.1 ∈ zT := zU3 91 (by decide +kernel) g_methodLink
set_option maxRecDepth 20000 in
theorem h_set {l : Launch} {D : va_G} {B : Nat} {O : State → Heap → Prop} (hV : zG l D B O) (hN : zNo O) (G : gH) (b q : Nat) (a1 : Int32) (a2 : Int32) (a3 : Int32) {fs fq : List Value} (hb : G.2.2 b = some (.inr (3, fs))) {c : Nat} {a : Int32} {H1 : gH} (hc : c ≤ 2) (hF : f_X_set G b a1 a2 a3 = oV xIG c (.int a) H1) (h1 : H1.1 ≤ G.1 + 840) (h2 : H1.2.1 ≤ G.2.1 + 8) (h3 : G.2.1 ≤ H1.2.1) (hq : H1.2.2 q = some (.inr (7, fq))) (hl : fq.length = 2) : zMeh (zVm l D B O) m_L_set hh_set 8 9 846 [.ref b, .int a1, .int a2, .int a3, .ref q] G.2 (wQ q c 0 (.long a.toInt64) H1) (fun _ _ => False) := by
  refine zMeh.of (by decide +kernel) (Nat.le_of_ble_eq_true rfl) [some (.ref b), some (.int a1), some (.int a2), some (.int a3), some (.ref q), none] (fun ls h => zEn_ok (n := 6) h) ?_
  refine Zh.blk (pc' := 6) (L' := [some (.ref b), some (.int a1), some (.int a2), some (.int a3), some (.ref q), none]) (st' := [.int a3, .int a2, .int a1, .ref b, .ref q]) (sg := [(.aload 4, 0), (.aload_n 0, 0), (.iload_n 1, 0), (.iload_n 2, 0), (.iload_n 3, 0)]) (by decide +kernel) rfl ?_
  refine Zh.oV (E := xIG) (As := [.int a1, .int a2, .int a3]) (b := b) (st := [.ref q]) (n := 3) (a := .int a) hV.1 (k_X_set hV G b a1 a2 a3) hF h1 h2 h3 cb_X_set lk_L_35 in_X_set se_X_set hb (by decide +kernel) rfl rfl (Nat.le_of_ble_eq_true rfl) (Nat.le_refl _) (fun h0 => ?_) (fun h0 => ?_)
  · obtain rfl | rfl : c = 1 ∨ c = 2 := by omega
    · exact ⟨16, ⟨[], [⟨0, 13, 20, 21⟩], ⟨0, 13, 16, 19⟩, _, rfl, fun z hz => absurd hz List.not_mem_nil, by decide, by decide, ck_L_19, ca_IOE, rfl⟩, fun G' q9 g1 g2 g3 => Zh.blk (pc' := 19) (L' := [some (.ref b), some (.int a1), some (.int a2), some (.int a3), some (.ref q), some (.ref q9)]) (st' := [.int (nI 1)]) (sg := [(.astore 5, 0), (.iconst 1, nI 1)]) (by decide +kernel) rfl (Zh.iret rfl rfl (by decide +kernel) ⟨rfl, g2, fun z _ => by rw [g3], fq, by rw [g3]; exact hq, hl, fun h9 => absurd h9 (by decide)⟩)⟩
    · exact ⟨20, ⟨[⟨0, 13, 16, 19⟩], [], ⟨0, 13, 20, 21⟩, _, rfl, List.forall_mem_cons.mpr ⟨⟨by decide, _, ck_L_19, fun U H h9 => (hN U H h9).1⟩, fun z hz => absurd hz List.not_mem_nil⟩, by decide, by decide, ck_L_21, ca_IAE, rfl⟩, fun G' q9 g1 g2 g3 => Zh.blk (pc' := 23) (L' := [some (.ref b), some (.int a1), some (.int a2), some (.int a3), some (.ref q), some (.ref q9)]) (st' := [.int (nI 2)]) (sg := [(.astore 5, 0), (.iconst 2, nI 2)]) (by decide +kernel) rfl (Zh.iret rfl rfl (by decide +kernel) ⟨rfl, g2, fun z _ => by rw [g3], fq, by rw [g3]; exact hq, hl, fun h9 => absurd h9 (by decide)⟩)⟩
  · subst h0
    refine Zh.blk (pc' := 10) (L' := [some (.ref b), some (.int a1), some (.int a2), some (.int a3), some (.ref q), none]) (st' := [.long a.toInt64, .ref q]) (sg := [(.i2l, 0)]) (by decide +kernel) rfl ?_
    refine Zh.putn (fs := fq) (ty := .long) (v := .long a.toInt64) fn_L_13 (by decide) (by decide +kernel) hq (by rw [hl]; decide) rfl rfl ?_
    refine Zh.goto (off := 11) (tgt := 24) (by decide +kernel) (by decide) ?_
    refine Zh.blk (pc' := 25) (L' := [some (.ref b), some (.int a1), some (.int a2), some (.int a3), some (.ref q), none]) (st' := [.int (nI 0)]) (sg := [(.iconst 0, nI 0)]) (by decide +kernel) rfl ?_
    exact Zh.iret rfl rfl (by decide +kernel) ⟨rfl, Nat.le_refl _, fun z hz => zUp_ne _ _ hz, _, zUp_at _ _ _, by rw [List.length_set]; exact hl, fun _ => by rw [List.getElem?_set_self (by rw [hl]; decide)]⟩
def m_L_removeAt : zM := (⟨"PartlisterLaw", "removeAt", "(LPartlister;IILPartlisterLaw$Out;)I"⟩, method_7_code, 5, some .int)
def hh_removeAt : zHh := [(0, 11, 14, 19)]
theorem cb_L_removeAt : zCbh m_L_removeAt hh_removeAt 4 := ⟨zU3 106 (cChkW_ok (by decide +kernel)) g_codeWith, ini_L, pln100, pld101, by decide⟩
theorem st_L_removeAt : Cond.static m_L_removeAt.1 ∈ zT := zU3 105 (by decide +kernel) g_static
theorem lk_L_192 : Cond.methodLink "PartlisterLaw" 192 m_L_removeAt.1 ∈ zT := zU3 104 (by decide +kernel) g_methodLink
set_option maxRecDepth 20000 in
theorem h_removeAt {l : Launch} {D : va_G} {B : Nat} {O : State → Heap → Prop} (hV : zG l D B O) (hN : zNo O) (G : gH) (b q : Nat) (a1 : Int32) (a2 : Int32) {fs fq : List Value} (hb : G.2.2 b = some (.inr (3, fs))) {c : Nat} {a : Int32} {H1 : gH} (hc : c ≤ 1) (hF : f_X_removeAt G b a1 a2 = oV xI1 c (.int a) H1) (h1 : H1.1 ≤ G.1 + 840) (h2 : H1.2.1 ≤ G.2.1 + 8) (h3 : G.2.1 ≤ H1.2.1) (hq : H1.2.2 q = some (.inr (7, fq))) (hl : fq.length = 2) : zMeh (zVm l D B O) m_L_removeAt hh_removeAt 8 9 846 [.ref b, .int a1, .int a2, .ref q] G.2 (wQ q c 0 (.long a.toInt64) H1) (fun _ _ => False) := by
  refine zMeh.of (by decide +kernel) (Nat.le_of_ble_eq_true rfl) [some (.ref b), some (.int a1), some (.int a2), some (.ref q), none] (fun ls h => zEn_ok (n := 5) h) ?_
  refine Zh.blk (pc' := 4) (L' := [some (.ref b), some (.int a1), some (.int a2), some (.ref q), none]) (st' := [.int a2, .int a1, .ref b, .ref q]) (sg := [(.aload_n 3, 0), (.aload_n 0, 0), (.iload_n 1, 0), (.iload_n 2, 0)]) (by decide +kernel) rfl ?_
  refine Zh.oV (E := xI1) (As := [.int a1, .int a2]) (b := b) (st := [.ref q]) (n := 2) (a := .int a) hV.1 (k_X_removeAt hV G b a1 a2) hF h1 h2 h3 cb_X_removeAt lk_L_38 in_X_removeAt se_X_removeAt hb (by decide +kernel) rfl rfl (Nat.le_of_ble_eq_true rfl) (Nat.le_refl _) (fun h0 => ?_) (fun h0 => ?_)
  · obtain rfl : c = 1 := by omega
    · exact ⟨14, ⟨[], [], ⟨0, 11, 14, 19⟩, _, rfl, fun z hz => absurd hz List.not_mem_nil, by decide, by decide, ck_L_19, ca_IOE, rfl⟩, fun G' q9 g1 g2 g3 => Zh.blk (pc' := 17) (L' := [some (.ref b), some (.int a1), some (.int a2), some (.ref q), some (.ref q9)]) (st' := [.int (nI 1)]) (sg := [(.astore 4, 0), (.iconst 1, nI 1)]) (by decide +kernel) rfl (Zh.iret rfl rfl (by decide +kernel) ⟨rfl, g2, fun z _ => by rw [g3], fq, by rw [g3]; exact hq, hl, fun h9 => absurd h9 (by decide)⟩)⟩
  · subst h0
    refine Zh.blk (pc' := 8) (L' := [some (.ref b), some (.int a1), some (.int a2), some (.ref q), none]) (st' := [.long a.toInt64, .ref q]) (sg := [(.i2l, 0)]) (by decide +kernel) rfl ?_
    refine Zh.putn (fs := fq) (ty := .long) (v := .long a.toInt64) fn_L_13 (by decide) (by decide +kernel) hq (by rw [hl]; decide) rfl rfl ?_
    refine Zh.goto (off := 7) (tgt := 18) (by decide +kernel) (by decide) ?_
    refine Zh.blk (pc' := 19) (L' := [some (.ref b), some (.int a1), some (.int a2), some (.ref q), none]) (st' := [.int (nI 0)]) (sg := [(.iconst 0, nI 0)]) (by decide +kernel) rfl ?_
    exact Zh.iret rfl rfl (by decide +kernel) ⟨rfl, Nat.le_refl _, fun z hz => zUp_ne _ _ hz, _, zUp_at _ _ _, by rw [List.length_set]; exact hl, fun _ => by rw [List.getElem?_set_self (by rw [hl]; decide)]⟩
def m_L_remove : zM := (⟨"PartlisterLaw", "remove", "(LPartlister;IILPartlisterLaw$Out;)I"⟩, method_8_code, 5, some .int)
def hh_remove : zHh := [(0, 18, 21, 19), (0, 18, 25, 21)]
theorem cb_L_remove : zCbh m_L_remove hh_remove 4 := ⟨zU3 121 (cChkW_ok (by decide +kernel)) g_codeWith, ini_L, pln100, pld101, by decide⟩
theorem st_L_remove : Cond.static m_L_remove.1 ∈ zT := zU3 120 (by decide +kernel) g_static
theorem lk_L_195 : Cond.methodLink "PartlisterLaw" 195 m_L_remove.1 ∈ zT := zU3 119 (by decide +kernel) g_methodLink
set_option maxRecDepth 20000 in
theorem h_remove {l : Launch} {D : va_G} {B : Nat} {O : State → Heap → Prop} (hV : zG l D B O) (hN : zNo O) (G : gH) (b q : Nat) (a1 : Int32) (a2 : Int32) {fs fq : List Value} (hb : G.2.2 b = some (.inr (3, fs))) {c : Nat} {a : Int32} {H1 : gH} (hc : c ≤ 2) (hF : f_X_remove G b a1 a2 = oV xIG c (.int a) H1) (h1 : H1.1 ≤ G.1 + 840) (h2 : H1.2.1 ≤ G.2.1 + 8) (h3 : G.2.1 ≤ H1.2.1) (hq : H1.2.2 q = some (.inr (7, fq))) (hl : fq.length = 2) : zMeh (zVm l D B O) m_L_remove hh_remove 8 9 846 [.ref b, .int a1, .int a2, .ref q] G.2 (wQ q c 0 (.long (if a = 0 then lN 0 else lN 1)) H1) (fun _ _ => False) := by
  refine zMeh.of (by decide +kernel) (Nat.le_of_ble_eq_true rfl) [some (.ref b), some (.int a1), some (.int a2), some (.ref q), none] (fun ls h => zEn_ok (n := 5) h) ?_
  refine Zh.blk (pc' := 4) (L' := [some (.ref b), some (.int a1), some (.int a2), some (.ref q), none]) (st' := [.int a2, .int a1, .ref b, .ref q]) (sg := [(.aload_n 3, 0), (.aload_n 0, 0), (.iload_n 1, 0), (.iload_n 2, 0)]) (by decide +kernel) rfl ?_
  refine Zh.oV (E := xIG) (As := [.int a1, .int a2]) (b := b) (st := [.ref q]) (n := 2) (a := .int a) hV.1 (k_X_remove hV G b a1 a2) hF h1 h2 h3 cb_X_remove lk_L_41 in_X_remove se_X_remove hb (by decide +kernel) rfl rfl (Nat.le_of_ble_eq_true rfl) (Nat.le_refl _) (fun h0 => ?_) (fun h0 => ?_)
  · obtain rfl | rfl : c = 1 ∨ c = 2 := by omega
    · exact ⟨21, ⟨[], [⟨0, 18, 25, 21⟩], ⟨0, 18, 21, 19⟩, _, rfl, fun z hz => absurd hz List.not_mem_nil, by decide, by decide, ck_L_19, ca_IOE, rfl⟩, fun G' q9 g1 g2 g3 => Zh.blk (pc' := 24) (L' := [some (.ref b), some (.int a1), some (.int a2), some (.ref q), some (.ref q9)]) (st' := [.int (nI 1)]) (sg := [(.astore 4, 0), (.iconst 1, nI 1)]) (by decide +kernel) rfl (Zh.iret rfl rfl (by decide +kernel) ⟨rfl, g2, fun z _ => by rw [g3], fq, by rw [g3]; exact hq, hl, fun h9 => absurd h9 (by decide)⟩)⟩
    · exact ⟨25, ⟨[⟨0, 18, 21, 19⟩], [], ⟨0, 18, 25, 21⟩, _, rfl, List.forall_mem_cons.mpr ⟨⟨by decide, _, ck_L_19, fun U H h9 => (hN U H h9).1⟩, fun z hz => absurd hz List.not_mem_nil⟩, by decide, by decide, ck_L_21, ca_IAE, rfl⟩, fun G' q9 g1 g2 g3 => Zh.blk (pc' := 28) (L' := [some (.ref b), some (.int a1), some (.int a2), some (.ref q), some (.ref q9)]) (st' := [.int (nI 2)]) (sg := [(.astore 4, 0), (.iconst 2, nI 2)]) (by decide +kernel) rfl (Zh.iret rfl rfl (by decide +kernel) ⟨rfl, g2, fun z _ => by rw [g3], fq, by rw [g3]; exact hq, hl, fun h9 => absurd h9 (by decide)⟩)⟩
  · subst h0
    refine Zh.if_eq (off := 7) (tgt := 14) (by decide +kernel) (by decide) (fun e0 => ?_) (fun e0 => ?_)
    · refine Zh.blk (pc' := 15) (L' := [some (.ref b), some (.int a1), some (.int a2), some (.ref q), none]) (st' := [.long (lN 0), .ref q]) (sg := [(.lconst 0, 0)]) (by decide +kernel) rfl ?_
      refine Zh.putn (fs := fq) (ty := .long) (v := .long (lN 0)) fn_L_13 (by decide) (by decide +kernel) hq (by rw [hl]; decide) rfl rfl ?_
      refine Zh.goto (off := 11) (tgt := 29) (by decide +kernel) (by decide) ?_
      refine Zh.blk (pc' := 30) (L' := [some (.ref b), some (.int a1), some (.int a2), some (.ref q), none]) (st' := [.int (nI 0)]) (sg := [(.iconst 0, nI 0)]) (by decide +kernel) rfl ?_
      exact Zh.iret rfl rfl (by decide +kernel) ⟨rfl, Nat.le_refl _, fun z hz => zUp_ne _ _ hz, _, zUp_at _ _ _, by rw [List.length_set]; exact hl, fun _ => by rw [List.getElem?_set_self (by rw [hl]; decide), if_pos e0]⟩
    · refine Zh.blk (pc' := 11) (L' := [some (.ref b), some (.int a1), some (.int a2), some (.ref q), none]) (st' := [.long (lN 1), .ref q]) (sg := [(.lconst 1, 0)]) (by decide +kernel) rfl ?_
      refine Zh.goto (off := 4) (tgt := 15) (by decide +kernel) (by decide) ?_
      refine Zh.putn (fs := fq) (ty := .long) (v := .long (lN 1)) fn_L_13 (by decide) (by decide +kernel) hq (by rw [hl]; decide) rfl rfl ?_
      refine Zh.goto (off := 11) (tgt := 29) (by decide +kernel) (by decide) ?_
      refine Zh.blk (pc' := 30) (L' := [some (.ref b), some (.int a1), some (.int a2), some (.ref q), none]) (st' := [.int (nI 0)]) (sg := [(.iconst 0, nI 0)]) (by decide +kernel) rfl ?_
      exact Zh.iret rfl rfl (by decide +kernel) ⟨rfl, Nat.le_refl _, fun z hz => zUp_ne _ _ hz, _, zUp_at _ _ _, by rw [List.length_set]; exact hl, fun _ => by rw [List.getElem?_set_self (by rw [hl]; decide), if_neg e0]⟩
def m_L_removeAll : zM := (⟨"PartlisterLaw", "removeAll", "(LPartlister;IILPartlisterLaw$Out;)I"⟩, method_9_code, 5, some .int)
def hh_removeAll : zHh := [(0, 11, 14, 19), (0, 11, 18, 23)]
theorem cb_L_removeAll : zCbh m_L_removeAll hh_removeAll 4 := ⟨zU3 128 (cChkW_ok (by decide +kernel)) g_codeWith, ini_L, pln100, pld101, by decide⟩
theorem st_L_removeAll : Cond.static m_L_removeAll.1 ∈ zT := zU3 127 (by decide +kernel) g_static
theorem lk_L_198 : Cond.methodLink "PartlisterLaw" 198 m_L_removeAll.1 ∈ zT := zU3 126 (by decide +kernel) g_methodLink
set_option maxRecDepth 20000 in
theorem h_removeAll {l : Launch} {D : va_G} {B : Nat} {O : State → Heap → Prop} (hV : zG l D B O) (hN : zNo O) (G : gH) (b q : Nat) (a1 : Int32) (a2 : Int32) {fs fq : List Value} (hb : G.2.2 b = some (.inr (3, fs))) {c : Nat} {a : Int32} {H1 : gH} (hc : c ≤ 2) (hF : f_X_removeAll G b a1 a2 = oV xIS c (.int a) H1) (h1 : H1.1 ≤ G.1 + 840) (h2 : H1.2.1 ≤ G.2.1 + 8) (h3 : G.2.1 ≤ H1.2.1) (hq : H1.2.2 q = some (.inr (7, fq))) (hl : fq.length = 2) : zMeh (zVm l D B O) m_L_removeAll hh_removeAll 8 9 846 [.ref b, .int a1, .int a2, .ref q] G.2 (wQ q c 0 (.long a.toInt64) H1) (fun _ _ => False) := by
  refine zMeh.of (by decide +kernel) (Nat.le_of_ble_eq_true rfl) [some (.ref b), some (.int a1), some (.int a2), some (.ref q), none] (fun ls h => zEn_ok (n := 5) h) ?_
  refine Zh.blk (pc' := 4) (L' := [some (.ref b), some (.int a1), some (.int a2), some (.ref q), none]) (st' := [.int a2, .int a1, .ref b, .ref q]) (sg := [(.aload_n 3, 0), (.aload_n 0, 0), (.iload_n 1, 0), (.iload_n 2, 0)]) (by decide +kernel) rfl ?_
  refine Zh.oV (E := xIS) (As := [.int a1, .int a2]) (b := b) (st := [.ref q]) (n := 2) (a := .int a) hV.1 (k_X_removeAll hV G b a1 a2) hF h1 h2 h3 cb_X_removeAll lk_L_45 in_X_removeAll se_X_removeAll hb (by decide +kernel) rfl rfl (Nat.le_of_ble_eq_true rfl) (Nat.le_refl _) (fun h0 => ?_) (fun h0 => ?_)
  · obtain rfl | rfl : c = 1 ∨ c = 2 := by omega
    · exact ⟨14, ⟨[], [⟨0, 11, 18, 23⟩], ⟨0, 11, 14, 19⟩, _, rfl, fun z hz => absurd hz List.not_mem_nil, by decide, by decide, ck_L_19, ca_IOE, rfl⟩, fun G' q9 g1 g2 g3 => Zh.blk (pc' := 17) (L' := [some (.ref b), some (.int a1), some (.int a2), some (.ref q), some (.ref q9)]) (st' := [.int (nI 1)]) (sg := [(.astore 4, 0), (.iconst 1, nI 1)]) (by decide +kernel) rfl (Zh.iret rfl rfl (by decide +kernel) ⟨rfl, g2, fun z _ => by rw [g3], fq, by rw [g3]; exact hq, hl, fun h9 => absurd h9 (by decide)⟩)⟩
    · exact ⟨18, ⟨[⟨0, 11, 14, 19⟩], [], ⟨0, 11, 18, 23⟩, _, rfl, List.forall_mem_cons.mpr ⟨⟨by decide, _, ck_L_19, fun U H h9 => (hN U H h9).2.1⟩, fun z hz => absurd hz List.not_mem_nil⟩, by decide, by decide, ck_L_23, ca_ISE, rfl⟩, fun G' q9 g1 g2 g3 => Zh.blk (pc' := 21) (L' := [some (.ref b), some (.int a1), some (.int a2), some (.ref q), some (.ref q9)]) (st' := [.int (nI 2)]) (sg := [(.astore 4, 0), (.iconst 2, nI 2)]) (by decide +kernel) rfl (Zh.iret rfl rfl (by decide +kernel) ⟨rfl, g2, fun z _ => by rw [g3], fq, by rw [g3]; exact hq, hl, fun h9 => absurd h9 (by decide)⟩)⟩
  · subst h0
    refine Zh.blk (pc' := 8) (L' := [some (.ref b), some (.int a1), some (.int a2), some (.ref q), none]) (st' := [.long a.toInt64, .ref q]) (sg := [(.i2l, 0)]) (by decide +kernel) rfl ?_
    refine Zh.putn (fs := fq) (ty := .long) (v := .long a.toInt64) fn_L_13 (by decide) (by decide +kernel) hq (by rw [hl]; decide) rfl rfl ?_
    refine Zh.goto (off := 11) (tgt := 22) (by decide +kernel) (by decide) ?_
    refine Zh.blk (pc' := 23) (L' := [some (.ref b), some (.int a1), some (.int a2), some (.ref q), none]) (st' := [.int (nI 0)]) (sg := [(.iconst 0, nI 0)]) (by decide +kernel) rfl ?_
    exact Zh.iret rfl rfl (by decide +kernel) ⟨rfl, Nat.le_refl _, fun z hz => zUp_ne _ _ hz, _, zUp_at _ _ _, by rw [List.length_set]; exact hl, fun _ => by rw [List.getElem?_set_self (by rw [hl]; decide)]⟩
def m_L_retainAll : zM := (⟨"PartlisterLaw", "retainAll", "(LPartlister;IILPartlisterLaw$Out;)I"⟩, method_10_code, 5, some .int)
def hh_retainAll : zHh := [(0, 11, 14, 19), (0, 11, 18, 23)]
theorem cb_L_retainAll : zCbh m_L_retainAll hh_retainAll 4 := ⟨zU3 144 (cChkW_ok (by decide +kernel)) g_codeWith, ini_L, pln100, pld101, by decide⟩
theorem st_L_retainAll : Cond.static m_L_retainAll.1 ∈ zT := zU3 143 (by decide +kernel) g_static
theorem lk_L_201 : Cond.methodLink "PartlisterLaw" 201 m_L_retainAll.1 ∈ zT := zU3 142 (by decide +kernel) g_methodLink
set_option maxRecDepth 20000 in
theorem h_retainAll {l : Launch} {D : va_G} {B : Nat} {O : State → Heap → Prop} (hV : zG l D B O) (hN : zNo O) (G : gH) (b q : Nat) (a1 : Int32) (a2 : Int32) {fs fq : List Value} (hb : G.2.2 b = some (.inr (3, fs))) {c : Nat} {a : Int32} {H1 : gH} (hc : c ≤ 2) (hF : f_X_retainAll G b a1 a2 = oV xIS c (.int a) H1) (h1 : H1.1 ≤ G.1 + 840) (h2 : H1.2.1 ≤ G.2.1 + 8) (h3 : G.2.1 ≤ H1.2.1) (hq : H1.2.2 q = some (.inr (7, fq))) (hl : fq.length = 2) : zMeh (zVm l D B O) m_L_retainAll hh_retainAll 8 9 846 [.ref b, .int a1, .int a2, .ref q] G.2 (wQ q c 0 (.long a.toInt64) H1) (fun _ _ => False) := by
  refine zMeh.of (by decide +kernel) (Nat.le_of_ble_eq_true rfl) [some (.ref b), some (.int a1), some (.int a2), some (.ref q), none] (fun ls h => zEn_ok (n := 5) h) ?_
  refine Zh.blk (pc' := 4) (L' := [some (.ref b), some (.int a1), some (.int a2), some (.ref q), none]) (st' := [.int a2, .int a1, .ref b, .ref q]) (sg := [(.aload_n 3, 0), (.aload_n 0, 0), (.iload_n 1, 0), (.iload_n 2, 0)]) (by decide +kernel) rfl ?_
  refine Zh.oV (E := xIS) (As := [.int a1, .int a2]) (b := b) (st := [.ref q]) (n := 2) (a := .int a) hV.1 (k_X_retainAll hV G b a1 a2) hF h1 h2 h3 cb_X_retainAll lk_L_48 in_X_retainAll se_X_retainAll hb (by decide +kernel) rfl rfl (Nat.le_of_ble_eq_true rfl) (Nat.le_refl _) (fun h0 => ?_) (fun h0 => ?_)
  · obtain rfl | rfl : c = 1 ∨ c = 2 := by omega
    · exact ⟨14, ⟨[], [⟨0, 11, 18, 23⟩], ⟨0, 11, 14, 19⟩, _, rfl, fun z hz => absurd hz List.not_mem_nil, by decide, by decide, ck_L_19, ca_IOE, rfl⟩, fun G' q9 g1 g2 g3 => Zh.blk (pc' := 17) (L' := [some (.ref b), some (.int a1), some (.int a2), some (.ref q), some (.ref q9)]) (st' := [.int (nI 1)]) (sg := [(.astore 4, 0), (.iconst 1, nI 1)]) (by decide +kernel) rfl (Zh.iret rfl rfl (by decide +kernel) ⟨rfl, g2, fun z _ => by rw [g3], fq, by rw [g3]; exact hq, hl, fun h9 => absurd h9 (by decide)⟩)⟩
    · exact ⟨18, ⟨[⟨0, 11, 14, 19⟩], [], ⟨0, 11, 18, 23⟩, _, rfl, List.forall_mem_cons.mpr ⟨⟨by decide, _, ck_L_19, fun U H h9 => (hN U H h9).2.1⟩, fun z hz => absurd hz List.not_mem_nil⟩, by decide, by decide, ck_L_23, ca_ISE, rfl⟩, fun G' q9 g1 g2 g3 => Zh.blk (pc' := 21) (L' := [some (.ref b), some (.int a1), some (.int a2), some (.ref q), some (.ref q9)]) (st' := [.int (nI 2)]) (sg := [(.astore 4, 0), (.iconst 2, nI 2)]) (by decide +kernel) rfl (Zh.iret rfl rfl (by decide +kernel) ⟨rfl, g2, fun z _ => by rw [g3], fq, by rw [g3]; exact hq, hl, fun h9 => absurd h9 (by decide)⟩)⟩
  · subst h0
    refine Zh.blk (pc' := 8) (L' := [some (.ref b), some (.int a1), some (.int a2), some (.ref q), none]) (st' := [.long a.toInt64, .ref q]) (sg := [(.i2l, 0)]) (by decide +kernel) rfl ?_
    refine Zh.putn (fs := fq) (ty := .long) (v := .long a.toInt64) fn_L_13 (by decide) (by decide +kernel) hq (by rw [hl]; decide) rfl rfl ?_
    refine Zh.goto (off := 11) (tgt := 22) (by decide +kernel) (by decide) ?_
    refine Zh.blk (pc' := 23) (L' := [some (.ref b), some (.int a1), some (.int a2), some (.ref q), none]) (st' := [.int (nI 0)]) (sg := [(.iconst 0, nI 0)]) (by decide +kernel) rfl ?_
    exact Zh.iret rfl rfl (by decide +kernel) ⟨rfl, Nat.le_refl _, fun z hz => zUp_ne _ _ hz, _, zUp_at _ _ _, by rw [List.length_set]; exact hl, fun _ => by rw [List.getElem?_set_self (by rw [hl]; decide)]⟩
def m_L_removeIf : zM := (⟨"PartlisterLaw", "removeIf", "(LPartlister;IIILPartlisterLaw$Out;)I"⟩, method_11_code, 6, some .int)
def hh_removeIf : zHh := [(0, 13, 16, 19), (0, 13, 20, 21)]
theorem cb_L_removeIf : zCbh m_L_removeIf hh_removeIf 5 := ⟨zU3 151 (cChkW_ok (by decide +kernel)) g_codeWith, ini_L, pln100, pld102, by decide⟩
theorem st_L_removeIf : Cond.static m_L_removeIf.1 ∈ zT := zU3 150 (by decide +kernel) g_static
theorem lk_L_204 : Cond.methodLink "PartlisterLaw" 204 m_L_removeIf.1 ∈ zT := zU3 149 (by decide +kernel) g_methodLink
set_option maxRecDepth 20000 in
theorem h_removeIf {l : Launch} {D : va_G} {B : Nat} {O : State → Heap → Prop} (hV : zG l D B O) (hN : zNo O) (G : gH) (b q : Nat) (a1 : Int32) (a2 : Int32) (a3 : Int32) {fs fq : List Value} (hb : G.2.2 b = some (.inr (3, fs))) {c : Nat} {a : Int32} {H1 : gH} (hc : c ≤ 2) (hF : f_X_removeIf G b a1 a2 a3 = oV xIG c (.int a) H1) (h1 : H1.1 ≤ G.1 + 840) (h2 : H1.2.1 ≤ G.2.1 + 8) (h3 : G.2.1 ≤ H1.2.1) (hq : H1.2.2 q = some (.inr (7, fq))) (hl : fq.length = 2) : zMeh (zVm l D B O) m_L_removeIf hh_removeIf 8 9 846 [.ref b, .int a1, .int a2, .int a3, .ref q] G.2 (wQ q c 0 (.long a.toInt64) H1) (fun _ _ => False) := by
  refine zMeh.of (by decide +kernel) (Nat.le_of_ble_eq_true rfl) [some (.ref b), some (.int a1), some (.int a2), some (.int a3), some (.ref q), none] (fun ls h => zEn_ok (n := 6) h) ?_
  refine Zh.blk (pc' := 6) (L' := [some (.ref b), some (.int a1), some (.int a2), some (.int a3), some (.ref q), none]) (st' := [.int a3, .int a2, .int a1, .ref b, .ref q]) (sg := [(.aload 4, 0), (.aload_n 0, 0), (.iload_n 1, 0), (.iload_n 2, 0), (.iload_n 3, 0)]) (by decide +kernel) rfl ?_
  refine Zh.oV (E := xIG) (As := [.int a1, .int a2, .int a3]) (b := b) (st := [.ref q]) (n := 3) (a := .int a) hV.1 (k_X_removeIf hV G b a1 a2 a3) hF h1 h2 h3 cb_X_removeIf lk_L_51 in_X_removeIf se_X_removeIf hb (by decide +kernel) rfl rfl (Nat.le_of_ble_eq_true rfl) (Nat.le_refl _) (fun h0 => ?_) (fun h0 => ?_)
  · obtain rfl | rfl : c = 1 ∨ c = 2 := by omega
    · exact ⟨16, ⟨[], [⟨0, 13, 20, 21⟩], ⟨0, 13, 16, 19⟩, _, rfl, fun z hz => absurd hz List.not_mem_nil, by decide, by decide, ck_L_19, ca_IOE, rfl⟩, fun G' q9 g1 g2 g3 => Zh.blk (pc' := 19) (L' := [some (.ref b), some (.int a1), some (.int a2), some (.int a3), some (.ref q), some (.ref q9)]) (st' := [.int (nI 1)]) (sg := [(.astore 5, 0), (.iconst 1, nI 1)]) (by decide +kernel) rfl (Zh.iret rfl rfl (by decide +kernel) ⟨rfl, g2, fun z _ => by rw [g3], fq, by rw [g3]; exact hq, hl, fun h9 => absurd h9 (by decide)⟩)⟩
    · exact ⟨20, ⟨[⟨0, 13, 16, 19⟩], [], ⟨0, 13, 20, 21⟩, _, rfl, List.forall_mem_cons.mpr ⟨⟨by decide, _, ck_L_19, fun U H h9 => (hN U H h9).1⟩, fun z hz => absurd hz List.not_mem_nil⟩, by decide, by decide, ck_L_21, ca_IAE, rfl⟩, fun G' q9 g1 g2 g3 => Zh.blk (pc' := 23) (L' := [some (.ref b), some (.int a1), some (.int a2), some (.int a3), some (.ref q), some (.ref q9)]) (st' := [.int (nI 2)]) (sg := [(.astore 5, 0), (.iconst 2, nI 2)]) (by decide +kernel) rfl (Zh.iret rfl rfl (by decide +kernel) ⟨rfl, g2, fun z _ => by rw [g3], fq, by rw [g3]; exact hq, hl, fun h9 => absurd h9 (by decide)⟩)⟩
  · subst h0
    refine Zh.blk (pc' := 10) (L' := [some (.ref b), some (.int a1), some (.int a2), some (.int a3), some (.ref q), none]) (st' := [.long a.toInt64, .ref q]) (sg := [(.i2l, 0)]) (by decide +kernel) rfl ?_
    refine Zh.putn (fs := fq) (ty := .long) (v := .long a.toInt64) fn_L_13 (by decide) (by decide +kernel) hq (by rw [hl]; decide) rfl rfl ?_
    refine Zh.goto (off := 11) (tgt := 24) (by decide +kernel) (by decide) ?_
    refine Zh.blk (pc' := 25) (L' := [some (.ref b), some (.int a1), some (.int a2), some (.int a3), some (.ref q), none]) (st' := [.int (nI 0)]) (sg := [(.iconst 0, nI 0)]) (by decide +kernel) rfl ?_
    exact Zh.iret rfl rfl (by decide +kernel) ⟨rfl, Nat.le_refl _, fun z hz => zUp_ne _ _ hz, _, zUp_at _ _ _, by rw [List.length_set]; exact hl, fun _ => by rw [List.getElem?_set_self (by rw [hl]; decide)]⟩
def m_L_clear : zM := (⟨"PartlisterLaw", "clear", "(LPartlister;ILPartlisterLaw$Out;)I"⟩, method_12_code, 4, some .int)
def hh_clear : zHh := [(0, 10, 13, 19)]
theorem cb_L_clear : zCbh m_L_clear hh_clear 3 := ⟨zU3 160 (cChkW_ok (by decide +kernel)) g_codeWith, ini_L, pln100, pld103, by decide⟩
theorem st_L_clear : Cond.static m_L_clear.1 ∈ zT := zU3 159 (by decide +kernel) g_static
theorem lk_L_207 : Cond.methodLink "PartlisterLaw" 207 m_L_clear.1 ∈ zT := zU3 158 (by decide +kernel) g_methodLink
set_option maxRecDepth 20000 in
theorem h_clear {l : Launch} {D : va_G} {B : Nat} {O : State → Heap → Prop} (hV : zG l D B O) (hN : zNo O) (G : gH) (b q : Nat) (a1 : Int32) {fs fq : List Value} (hb : G.2.2 b = some (.inr (3, fs))) {c : Nat} {a : Int32} {H1 : gH} (hc : c ≤ 1) (hF : f_X_clear G b a1 = oV xI1 c (.int a) H1) (h1 : H1.1 ≤ G.1 + 840) (h2 : H1.2.1 ≤ G.2.1 + 8) (h3 : G.2.1 ≤ H1.2.1) (hq : H1.2.2 q = some (.inr (7, fq))) (hl : fq.length = 2) : zMeh (zVm l D B O) m_L_clear hh_clear 8 9 846 [.ref b, .int a1, .ref q] G.2 (wQ q c 0 (.long a.toInt64) H1) (fun _ _ => False) := by
  refine zMeh.of (by decide +kernel) (Nat.le_of_ble_eq_true rfl) [some (.ref b), some (.int a1), some (.ref q), none] (fun ls h => zEn_ok (n := 4) h) ?_
  refine Zh.blk (pc' := 3) (L' := [some (.ref b), some (.int a1), some (.ref q), none]) (st' := [.int a1, .ref b, .ref q]) (sg := [(.aload_n 2, 0), (.aload_n 0, 0), (.iload_n 1, 0)]) (by decide +kernel) rfl ?_
  refine Zh.oV (E := xI1) (As := [.int a1]) (b := b) (st := [.ref q]) (n := 1) (a := .int a) hV.1 (k_X_clear hV G b a1) hF h1 h2 h3 cb_X_clear lk_L_54 in_X_clear se_X_clear hb (by decide +kernel) rfl rfl (Nat.le_of_ble_eq_true rfl) (Nat.le_refl _) (fun h0 => ?_) (fun h0 => ?_)
  · obtain rfl : c = 1 := by omega
    · exact ⟨13, ⟨[], [], ⟨0, 10, 13, 19⟩, _, rfl, fun z hz => absurd hz List.not_mem_nil, by decide, by decide, ck_L_19, ca_IOE, rfl⟩, fun G' q9 g1 g2 g3 => Zh.blk (pc' := 15) (L' := [some (.ref b), some (.int a1), some (.ref q), some (.ref q9)]) (st' := [.int (nI 1)]) (sg := [(.astore_n 3, 0), (.iconst 1, nI 1)]) (by decide +kernel) rfl (Zh.iret rfl rfl (by decide +kernel) ⟨rfl, g2, fun z _ => by rw [g3], fq, by rw [g3]; exact hq, hl, fun h9 => absurd h9 (by decide)⟩)⟩
  · subst h0
    refine Zh.blk (pc' := 7) (L' := [some (.ref b), some (.int a1), some (.ref q), none]) (st' := [.long a.toInt64, .ref q]) (sg := [(.i2l, 0)]) (by decide +kernel) rfl ?_
    refine Zh.putn (fs := fq) (ty := .long) (v := .long a.toInt64) fn_L_13 (by decide) (by decide +kernel) hq (by rw [hl]; decide) rfl rfl ?_
    refine Zh.goto (off := 6) (tgt := 16) (by decide +kernel) (by decide) ?_
    refine Zh.blk (pc' := 17) (L' := [some (.ref b), some (.int a1), some (.ref q), none]) (st' := [.int (nI 0)]) (sg := [(.iconst 0, nI 0)]) (by decide +kernel) rfl ?_
    exact Zh.iret rfl rfl (by decide +kernel) ⟨rfl, Nat.le_refl _, fun z hz => zUp_ne _ _ hz, _, zUp_at _ _ _, by rw [List.length_set]; exact hl, fun _ => by rw [List.getElem?_set_self (by rw [hl]; decide)]⟩
def m_L_replaceAll : zM := (⟨"PartlisterLaw", "replaceAll", "(LPartlister;IIILPartlisterLaw$Out;)I"⟩, method_13_code, 6, some .int)
def hh_replaceAll : zHh := [(0, 13, 16, 19), (0, 13, 20, 21)]
theorem cb_L_replaceAll : zCbh m_L_replaceAll hh_replaceAll 5 := ⟨zU3 167 (cChkW_ok (by decide +kernel)) g_codeWith, ini_L, pln100, pld102, by decide⟩
theorem st_L_replaceAll : Cond.static m_L_replaceAll.1 ∈ zT := zU3 166 (by decide +kernel) g_static
theorem lk_L_211 : Cond.methodLink "PartlisterLaw" 211 m_L_replaceAll.1 ∈ zT := zU3 165 (by decide +kernel) g_methodLink
set_option maxRecDepth 20000 in
theorem h_replaceAll {l : Launch} {D : va_G} {B : Nat} {O : State → Heap → Prop} (hV : zG l D B O) (hN : zNo O) (G : gH) (b q : Nat) (a1 : Int32) (a2 : Int32) (a3 : Int32) {fs fq : List Value} (hb : G.2.2 b = some (.inr (3, fs))) {c : Nat} {a : Int32} {H1 : gH} (hc : c ≤ 2) (hF : f_X_replaceAll G b a1 a2 a3 = oV xIG c (.int a) H1) (h1 : H1.1 ≤ G.1 + 840) (h2 : H1.2.1 ≤ G.2.1 + 8) (h3 : G.2.1 ≤ H1.2.1) (hq : H1.2.2 q = some (.inr (7, fq))) (hl : fq.length = 2) : zMeh (zVm l D B O) m_L_replaceAll hh_replaceAll 8 9 846 [.ref b, .int a1, .int a2, .int a3, .ref q] G.2 (wQ q c 0 (.long a.toInt64) H1) (fun _ _ => False) := by
  refine zMeh.of (by decide +kernel) (Nat.le_of_ble_eq_true rfl) [some (.ref b), some (.int a1), some (.int a2), some (.int a3), some (.ref q), none] (fun ls h => zEn_ok (n := 6) h) ?_
  refine Zh.blk (pc' := 6) (L' := [some (.ref b), some (.int a1), some (.int a2), some (.int a3), some (.ref q), none]) (st' := [.int a3, .int a2, .int a1, .ref b, .ref q]) (sg := [(.aload 4, 0), (.aload_n 0, 0), (.iload_n 1, 0), (.iload_n 2, 0), (.iload_n 3, 0)]) (by decide +kernel) rfl ?_
  refine Zh.oV (E := xIG) (As := [.int a1, .int a2, .int a3]) (b := b) (st := [.ref q]) (n := 3) (a := .int a) hV.1 (k_X_replaceAll hV G b a1 a2 a3) hF h1 h2 h3 cb_X_replaceAll lk_L_58 in_X_replaceAll se_X_replaceAll hb (by decide +kernel) rfl rfl (Nat.le_of_ble_eq_true rfl) (Nat.le_refl _) (fun h0 => ?_) (fun h0 => ?_)
  · obtain rfl | rfl : c = 1 ∨ c = 2 := by omega
    · exact ⟨16, ⟨[], [⟨0, 13, 20, 21⟩], ⟨0, 13, 16, 19⟩, _, rfl, fun z hz => absurd hz List.not_mem_nil, by decide, by decide, ck_L_19, ca_IOE, rfl⟩, fun G' q9 g1 g2 g3 => Zh.blk (pc' := 19) (L' := [some (.ref b), some (.int a1), some (.int a2), some (.int a3), some (.ref q), some (.ref q9)]) (st' := [.int (nI 1)]) (sg := [(.astore 5, 0), (.iconst 1, nI 1)]) (by decide +kernel) rfl (Zh.iret rfl rfl (by decide +kernel) ⟨rfl, g2, fun z _ => by rw [g3], fq, by rw [g3]; exact hq, hl, fun h9 => absurd h9 (by decide)⟩)⟩
    · exact ⟨20, ⟨[⟨0, 13, 16, 19⟩], [], ⟨0, 13, 20, 21⟩, _, rfl, List.forall_mem_cons.mpr ⟨⟨by decide, _, ck_L_19, fun U H h9 => (hN U H h9).1⟩, fun z hz => absurd hz List.not_mem_nil⟩, by decide, by decide, ck_L_21, ca_IAE, rfl⟩, fun G' q9 g1 g2 g3 => Zh.blk (pc' := 23) (L' := [some (.ref b), some (.int a1), some (.int a2), some (.int a3), some (.ref q), some (.ref q9)]) (st' := [.int (nI 2)]) (sg := [(.astore 5, 0), (.iconst 2, nI 2)]) (by decide +kernel) rfl (Zh.iret rfl rfl (by decide +kernel) ⟨rfl, g2, fun z _ => by rw [g3], fq, by rw [g3]; exact hq, hl, fun h9 => absurd h9 (by decide)⟩)⟩
  · subst h0
    refine Zh.blk (pc' := 10) (L' := [some (.ref b), some (.int a1), some (.int a2), some (.int a3), some (.ref q), none]) (st' := [.long a.toInt64, .ref q]) (sg := [(.i2l, 0)]) (by decide +kernel) rfl ?_
    refine Zh.putn (fs := fq) (ty := .long) (v := .long a.toInt64) fn_L_13 (by decide) (by decide +kernel) hq (by rw [hl]; decide) rfl rfl ?_
    refine Zh.goto (off := 11) (tgt := 24) (by decide +kernel) (by decide) ?_
    refine Zh.blk (pc' := 25) (L' := [some (.ref b), some (.int a1), some (.int a2), some (.int a3), some (.ref q), none]) (st' := [.int (nI 0)]) (sg := [(.iconst 0, nI 0)]) (by decide +kernel) rfl ?_
    exact Zh.iret rfl rfl (by decide +kernel) ⟨rfl, Nat.le_refl _, fun z hz => zUp_ne _ _ hz, _, zUp_at _ _ _, by rw [List.length_set]; exact hl, fun _ => by rw [List.getElem?_set_self (by rw [hl]; decide)]⟩
def m_L_assign : zM := (⟨"PartlisterLaw", "assign", "(LPartlister;IILPartlisterLaw$Out;)I"⟩, method_14_code, 5, some .int)
def hh_assign : zHh := [(0, 11, 14, 19)]
theorem cb_L_assign : zCbh m_L_assign hh_assign 4 := ⟨zU3 181 (cChkW_ok (by decide +kernel)) g_codeWith, ini_L, pln100, pld101, by decide⟩
theorem st_L_assign : Cond.static m_L_assign.1 ∈ zT := zU3 180 (by decide +kernel) g_static
theorem lk_L_214 : Cond.methodLink "PartlisterLaw" 214 m_L_assign.1 ∈ zT := zU3 179 (by decide +kernel) g_methodLink
set_option maxRecDepth 20000 in
theorem h_assign {l : Launch} {D : va_G} {B : Nat} {O : State → Heap → Prop} (hV : zG l D B O) (hN : zNo O) (G : gH) (b q : Nat) (a1 : Int32) (a2 : Int32) {fs fq : List Value} (hb : G.2.2 b = some (.inr (3, fs))) {c : Nat} {a : Int32} {H1 : gH} (hc : c ≤ 1) (hF : f_X_assign G b a1 a2 = oV xI1 c (.int a) H1) (h1 : H1.1 ≤ G.1 + 840) (h2 : H1.2.1 ≤ G.2.1 + 8) (h3 : G.2.1 ≤ H1.2.1) (hq : H1.2.2 q = some (.inr (7, fq))) (hl : fq.length = 2) : zMeh (zVm l D B O) m_L_assign hh_assign 8 9 846 [.ref b, .int a1, .int a2, .ref q] G.2 (wQ q c 0 (.long a.toInt64) H1) (fun _ _ => False) := by
  refine zMeh.of (by decide +kernel) (Nat.le_of_ble_eq_true rfl) [some (.ref b), some (.int a1), some (.int a2), some (.ref q), none] (fun ls h => zEn_ok (n := 5) h) ?_
  refine Zh.blk (pc' := 4) (L' := [some (.ref b), some (.int a1), some (.int a2), some (.ref q), none]) (st' := [.int a2, .int a1, .ref b, .ref q]) (sg := [(.aload_n 3, 0), (.aload_n 0, 0), (.iload_n 1, 0), (.iload_n 2, 0)]) (by decide +kernel) rfl ?_
  refine Zh.oV (E := xI1) (As := [.int a1, .int a2]) (b := b) (st := [.ref q]) (n := 2) (a := .int a) hV.1 (k_X_assign hV G b a1 a2) hF h1 h2 h3 cb_X_assign lk_L_61 in_X_assign se_X_assign hb (by decide +kernel) rfl rfl (Nat.le_of_ble_eq_true rfl) (Nat.le_refl _) (fun h0 => ?_) (fun h0 => ?_)
  · obtain rfl : c = 1 := by omega
    · exact ⟨14, ⟨[], [], ⟨0, 11, 14, 19⟩, _, rfl, fun z hz => absurd hz List.not_mem_nil, by decide, by decide, ck_L_19, ca_IOE, rfl⟩, fun G' q9 g1 g2 g3 => Zh.blk (pc' := 17) (L' := [some (.ref b), some (.int a1), some (.int a2), some (.ref q), some (.ref q9)]) (st' := [.int (nI 1)]) (sg := [(.astore 4, 0), (.iconst 1, nI 1)]) (by decide +kernel) rfl (Zh.iret rfl rfl (by decide +kernel) ⟨rfl, g2, fun z _ => by rw [g3], fq, by rw [g3]; exact hq, hl, fun h9 => absurd h9 (by decide)⟩)⟩
  · subst h0
    refine Zh.blk (pc' := 8) (L' := [some (.ref b), some (.int a1), some (.int a2), some (.ref q), none]) (st' := [.long a.toInt64, .ref q]) (sg := [(.i2l, 0)]) (by decide +kernel) rfl ?_
    refine Zh.putn (fs := fq) (ty := .long) (v := .long a.toInt64) fn_L_13 (by decide) (by decide +kernel) hq (by rw [hl]; decide) rfl rfl ?_
    refine Zh.goto (off := 7) (tgt := 18) (by decide +kernel) (by decide) ?_
    refine Zh.blk (pc' := 19) (L' := [some (.ref b), some (.int a1), some (.int a2), some (.ref q), none]) (st' := [.int (nI 0)]) (sg := [(.iconst 0, nI 0)]) (by decide +kernel) rfl ?_
    exact Zh.iret rfl rfl (by decide +kernel) ⟨rfl, Nat.le_refl _, fun z hz => zUp_ne _ _ hz, _, zUp_at _ _ _, by rw [List.length_set]; exact hl, fun _ => by rw [List.getElem?_set_self (by rw [hl]; decide)]⟩
def m_L_pack : zM := (⟨"PartlisterLaw", "pack", "(LPartlister;IZLPartlisterLaw$Out;)I"⟩, method_15_code, 5, some .int)
def hh_pack : zHh := [(0, 11, 14, 19)]
theorem cb_L_pack : zCbh m_L_pack hh_pack 4 := ⟨zU3 197 (cChkW_ok (by decide +kernel)) g_codeWith, ini_L, pln100, pld104, by decide⟩
theorem st_L_pack : Cond.static m_L_pack.1 ∈ zT := zU3 196 (by decide +kernel) g_static
theorem lk_L_217 : Cond.methodLink "PartlisterLaw" 217 m_L_pack.1 ∈ zT := zU3 195 (by decide +kernel) g_methodLink
set_option maxRecDepth 20000 in
theorem h_pack {l : Launch} {D : va_G} {B : Nat} {O : State → Heap → Prop} (hV : zG l D B O) (hN : zNo O) (G : gH) (b q : Nat) (a1 : Int32) (a2 : Int32) {fs fq : List Value} (hb : G.2.2 b = some (.inr (3, fs))) {c : Nat} {a : Int32} {H1 : gH} (hc : c ≤ 1) (hF : f_X_pack G b a1 a2 = oV xI1 c (.int a) H1) (h1 : H1.1 ≤ G.1 + 840) (h2 : H1.2.1 ≤ G.2.1 + 8) (h3 : G.2.1 ≤ H1.2.1) (hq : H1.2.2 q = some (.inr (7, fq))) (hl : fq.length = 2) : zMeh (zVm l D B O) m_L_pack hh_pack 8 9 846 [.ref b, .int a1, .int a2, .ref q] G.2 (wQ q c 0 (.long a.toInt64) H1) (fun _ _ => False) := by
  refine zMeh.of (by decide +kernel) (Nat.le_of_ble_eq_true rfl) [some (.ref b), some (.int a1), some (.int a2), some (.ref q), none] (fun ls h => zEn_ok (n := 5) h) ?_
  refine Zh.blk (pc' := 4) (L' := [some (.ref b), some (.int a1), some (.int a2), some (.ref q), none]) (st' := [.int a2, .int a1, .ref b, .ref q]) (sg := [(.aload_n 3, 0), (.aload_n 0, 0), (.iload_n 1, 0), (.iload_n 2, 0)]) (by decide +kernel) rfl ?_
  refine Zh.oV (E := xI1) (As := [.int a1, .int a2]) (b := b) (st := [.ref q]) (n := 2) (a := .int a) hV.1 (k_X_pack hV G b a1 a2) hF h1 h2 h3 cb_X_pack lk_L_64 in_X_pack se_X_pack hb (by decide +kernel) rfl rfl (Nat.le_of_ble_eq_true rfl) (Nat.le_refl _) (fun h0 => ?_) (fun h0 => ?_)
  · obtain rfl : c = 1 := by omega
    · exact ⟨14, ⟨[], [], ⟨0, 11, 14, 19⟩, _, rfl, fun z hz => absurd hz List.not_mem_nil, by decide, by decide, ck_L_19, ca_IOE, rfl⟩, fun G' q9 g1 g2 g3 => Zh.blk (pc' := 17) (L' := [some (.ref b), some (.int a1), some (.int a2), some (.ref q), some (.ref q9)]) (st' := [.int (nI 1)]) (sg := [(.astore 4, 0), (.iconst 1, nI 1)]) (by decide +kernel) rfl (Zh.iret rfl rfl (by decide +kernel) ⟨rfl, g2, fun z _ => by rw [g3], fq, by rw [g3]; exact hq, hl, fun h9 => absurd h9 (by decide)⟩)⟩
  · subst h0
    refine Zh.blk (pc' := 8) (L' := [some (.ref b), some (.int a1), some (.int a2), some (.ref q), none]) (st' := [.long a.toInt64, .ref q]) (sg := [(.i2l, 0)]) (by decide +kernel) rfl ?_
    refine Zh.putn (fs := fq) (ty := .long) (v := .long a.toInt64) fn_L_13 (by decide) (by decide +kernel) hq (by rw [hl]; decide) rfl rfl ?_
    refine Zh.goto (off := 7) (tgt := 18) (by decide +kernel) (by decide) ?_
    refine Zh.blk (pc' := 19) (L' := [some (.ref b), some (.int a1), some (.int a2), some (.ref q), none]) (st' := [.int (nI 0)]) (sg := [(.iconst 0, nI 0)]) (by decide +kernel) rfl ?_
    exact Zh.iret rfl rfl (by decide +kernel) ⟨rfl, Nat.le_refl _, fun z hz => zUp_ne _ _ hz, _, zUp_at _ _ _, by rw [List.length_set]; exact hl, fun _ => by rw [List.getElem?_set_self (by rw [hl]; decide)]⟩
def m_L_sort : zM := (⟨"PartlisterLaw", "sort", "(LPartlister;IILPartlisterLaw$Out;)I"⟩, method_16_code, 5, some .int)
def hh_sort : zHh := [(0, 11, 14, 19), (0, 11, 18, 21)]
theorem cb_L_sort : zCbh m_L_sort hh_sort 4 := ⟨zU3 204 (cChkW_ok (by decide +kernel)) g_codeWith, ini_L, pln100, pld101, by decide⟩
theorem st_L_sort : Cond.static m_L_sort.1 ∈ zT := zU3 203 (by decide +kernel) g_static
theorem lk_L_221 : Cond.methodLink "PartlisterLaw" 221 m_L_sort.1 ∈ zT := zU3 202 (by decide +kernel) g_methodLink
set_option maxRecDepth 20000 in
theorem h_sort {l : Launch} {D : va_G} {B : Nat} {O : State → Heap → Prop} (hV : zG l D B O) (hN : zNo O) (G : gH) (b q : Nat) (a1 : Int32) (a2 : Int32) {fs fq : List Value} (hb : G.2.2 b = some (.inr (3, fs))) {c : Nat} {a : Int32} {H1 : gH} (hc : c ≤ 2) (hF : f_X_sort G b a1 a2 = oV xIG c (.int a) H1) (h1 : H1.1 ≤ G.1 + 840) (h2 : H1.2.1 ≤ G.2.1 + 8) (h3 : G.2.1 ≤ H1.2.1) (hq : H1.2.2 q = some (.inr (7, fq))) (hl : fq.length = 2) : zMeh (zVm l D B O) m_L_sort hh_sort 8 9 846 [.ref b, .int a1, .int a2, .ref q] G.2 (wQ q c 0 (.long a.toInt64) H1) (fun _ _ => False) := by
  refine zMeh.of (by decide +kernel) (Nat.le_of_ble_eq_true rfl) [some (.ref b), some (.int a1), some (.int a2), some (.ref q), none] (fun ls h => zEn_ok (n := 5) h) ?_
  refine Zh.blk (pc' := 4) (L' := [some (.ref b), some (.int a1), some (.int a2), some (.ref q), none]) (st' := [.int a2, .int a1, .ref b, .ref q]) (sg := [(.aload_n 3, 0), (.aload_n 0, 0), (.iload_n 1, 0), (.iload_n 2, 0)]) (by decide +kernel) rfl ?_
  refine Zh.oV (E := xIG) (As := [.int a1, .int a2]) (b := b) (st := [.ref q]) (n := 2) (a := .int a) hV.1 (k_X_sort hV G b a1 a2) hF h1 h2 h3 cb_X_sort lk_L_68 in_X_sort se_X_sort hb (by decide +kernel) rfl rfl (Nat.le_of_ble_eq_true rfl) (Nat.le_refl _) (fun h0 => ?_) (fun h0 => ?_)
  · obtain rfl | rfl : c = 1 ∨ c = 2 := by omega
    · exact ⟨14, ⟨[], [⟨0, 11, 18, 21⟩], ⟨0, 11, 14, 19⟩, _, rfl, fun z hz => absurd hz List.not_mem_nil, by decide, by decide, ck_L_19, ca_IOE, rfl⟩, fun G' q9 g1 g2 g3 => Zh.blk (pc' := 17) (L' := [some (.ref b), some (.int a1), some (.int a2), some (.ref q), some (.ref q9)]) (st' := [.int (nI 1)]) (sg := [(.astore 4, 0), (.iconst 1, nI 1)]) (by decide +kernel) rfl (Zh.iret rfl rfl (by decide +kernel) ⟨rfl, g2, fun z _ => by rw [g3], fq, by rw [g3]; exact hq, hl, fun h9 => absurd h9 (by decide)⟩)⟩
    · exact ⟨18, ⟨[⟨0, 11, 14, 19⟩], [], ⟨0, 11, 18, 21⟩, _, rfl, List.forall_mem_cons.mpr ⟨⟨by decide, _, ck_L_19, fun U H h9 => (hN U H h9).1⟩, fun z hz => absurd hz List.not_mem_nil⟩, by decide, by decide, ck_L_21, ca_IAE, rfl⟩, fun G' q9 g1 g2 g3 => Zh.blk (pc' := 21) (L' := [some (.ref b), some (.int a1), some (.int a2), some (.ref q), some (.ref q9)]) (st' := [.int (nI 2)]) (sg := [(.astore 4, 0), (.iconst 2, nI 2)]) (by decide +kernel) rfl (Zh.iret rfl rfl (by decide +kernel) ⟨rfl, g2, fun z _ => by rw [g3], fq, by rw [g3]; exact hq, hl, fun h9 => absurd h9 (by decide)⟩)⟩
  · subst h0
    refine Zh.blk (pc' := 8) (L' := [some (.ref b), some (.int a1), some (.int a2), some (.ref q), none]) (st' := [.long a.toInt64, .ref q]) (sg := [(.i2l, 0)]) (by decide +kernel) rfl ?_
    refine Zh.putn (fs := fq) (ty := .long) (v := .long a.toInt64) fn_L_13 (by decide) (by decide +kernel) hq (by rw [hl]; decide) rfl rfl ?_
    refine Zh.goto (off := 11) (tgt := 22) (by decide +kernel) (by decide) ?_
    refine Zh.blk (pc' := 23) (L' := [some (.ref b), some (.int a1), some (.int a2), some (.ref q), none]) (st' := [.int (nI 0)]) (sg := [(.iconst 0, nI 0)]) (by decide +kernel) rfl ?_
    exact Zh.iret rfl rfl (by decide +kernel) ⟨rfl, Nat.le_refl _, fun z hz => zUp_ne _ _ hz, _, zUp_at _ _ _, by rw [List.length_set]; exact hl, fun _ => by rw [List.getElem?_set_self (by rw [hl]; decide)]⟩
def m_L_turn : zM := (⟨"PartlisterLaw", "turn", "(LPartlister;ILPartlisterLaw$Out;)I"⟩, method_17_code, 4, some .int)
def hh_turn : zHh := [(0, 10, 13, 19)]
theorem cb_L_turn : zCbh m_L_turn hh_turn 3 := ⟨zU3 217 (cChkW_ok (by decide +kernel)) g_codeWith, ini_L, pln100, pld103, by decide⟩
theorem st_L_turn : Cond.static m_L_turn.1 ∈ zT := zU3 216 (by decide +kernel) g_static
theorem lk_L_224 : Cond.methodLink "PartlisterLaw" 224 m_L_turn.1 ∈ zT := zU3 215 (by decide +kernel) g_methodLink
set_option maxRecDepth 20000 in
theorem h_turn {l : Launch} {D : va_G} {B : Nat} {O : State → Heap → Prop} (hV : zG l D B O) (hN : zNo O) (G : gH) (b q : Nat) (a1 : Int32) {fs fq : List Value} (hb : G.2.2 b = some (.inr (3, fs))) {c : Nat} {a : Int32} {H1 : gH} (hc : c ≤ 1) (hF : f_X_turn G b a1 = oV xI1 c (.int a) H1) (h1 : H1.1 ≤ G.1 + 840) (h2 : H1.2.1 ≤ G.2.1 + 8) (h3 : G.2.1 ≤ H1.2.1) (hq : H1.2.2 q = some (.inr (7, fq))) (hl : fq.length = 2) : zMeh (zVm l D B O) m_L_turn hh_turn 8 9 846 [.ref b, .int a1, .ref q] G.2 (wQ q c 0 (.long a.toInt64) H1) (fun _ _ => False) := by
  refine zMeh.of (by decide +kernel) (Nat.le_of_ble_eq_true rfl) [some (.ref b), some (.int a1), some (.ref q), none] (fun ls h => zEn_ok (n := 4) h) ?_
  refine Zh.blk (pc' := 3) (L' := [some (.ref b), some (.int a1), some (.ref q), none]) (st' := [.int a1, .ref b, .ref q]) (sg := [(.aload_n 2, 0), (.aload_n 0, 0), (.iload_n 1, 0)]) (by decide +kernel) rfl ?_
  refine Zh.oV (E := xI1) (As := [.int a1]) (b := b) (st := [.ref q]) (n := 1) (a := .int a) hV.1 (k_X_turn hV G b a1) hF h1 h2 h3 cb_X_turn lk_L_71 in_X_turn se_X_turn hb (by decide +kernel) rfl rfl (Nat.le_of_ble_eq_true rfl) (Nat.le_refl _) (fun h0 => ?_) (fun h0 => ?_)
  · obtain rfl : c = 1 := by omega
    · exact ⟨13, ⟨[], [], ⟨0, 10, 13, 19⟩, _, rfl, fun z hz => absurd hz List.not_mem_nil, by decide, by decide, ck_L_19, ca_IOE, rfl⟩, fun G' q9 g1 g2 g3 => Zh.blk (pc' := 15) (L' := [some (.ref b), some (.int a1), some (.ref q), some (.ref q9)]) (st' := [.int (nI 1)]) (sg := [(.astore_n 3, 0), (.iconst 1, nI 1)]) (by decide +kernel) rfl (Zh.iret rfl rfl (by decide +kernel) ⟨rfl, g2, fun z _ => by rw [g3], fq, by rw [g3]; exact hq, hl, fun h9 => absurd h9 (by decide)⟩)⟩
  · subst h0
    refine Zh.blk (pc' := 7) (L' := [some (.ref b), some (.int a1), some (.ref q), none]) (st' := [.long a.toInt64, .ref q]) (sg := [(.i2l, 0)]) (by decide +kernel) rfl ?_
    refine Zh.putn (fs := fq) (ty := .long) (v := .long a.toInt64) fn_L_13 (by decide) (by decide +kernel) hq (by rw [hl]; decide) rfl rfl ?_
    refine Zh.goto (off := 6) (tgt := 16) (by decide +kernel) (by decide) ?_
    refine Zh.blk (pc' := 17) (L' := [some (.ref b), some (.int a1), some (.ref q), none]) (st' := [.int (nI 0)]) (sg := [(.iconst 0, nI 0)]) (by decide +kernel) rfl ?_
    exact Zh.iret rfl rfl (by decide +kernel) ⟨rfl, Nat.le_refl _, fun z hz => zUp_ne _ _ hz, _, zUp_at _ _ _, by rw [List.length_set]; exact hl, fun _ => by rw [List.getElem?_set_self (by rw [hl]; decide)]⟩
def m_L_move : zM := (⟨"PartlisterLaw", "move", "(LPartlister;IILPartlisterLaw$Out;)I"⟩, method_18_code, 5, some .int)
def hh_move : zHh := [(0, 11, 14, 19), (0, 11, 18, 21)]
theorem cb_L_move : zCbh m_L_move hh_move 4 := ⟨zU3 228 (cChkW_ok (by decide +kernel)) g_codeWith, ini_L, pln100, pld101, by decide⟩
theorem st_L_move : Cond.static m_L_move.1 ∈ zT := zU3 227 (by decide +kernel) g_static
theorem lk_L_227 : Cond.methodLink "PartlisterLaw" 227 m_L_move.1 ∈ zT := zU3 226 (by decide +kernel) g_methodLink
set_option maxRecDepth 20000 in
theorem h_move {l : Launch} {D : va_G} {B : Nat} {O : State → Heap → Prop} (hV : zG l D B O) (hN : zNo O) (G : gH) (b q : Nat) (a1 : Int32) (a2 : Int32) {fs fq : List Value} (hb : G.2.2 b = some (.inr (3, fs))) {c : Nat} {a : Int32} {H1 : gH} (hc : c ≤ 2) (hF : f_X_move G b a1 a2 = oV xIG c (.int a) H1) (h1 : H1.1 ≤ G.1 + 840) (h2 : H1.2.1 ≤ G.2.1 + 8) (h3 : G.2.1 ≤ H1.2.1) (hq : H1.2.2 q = some (.inr (7, fq))) (hl : fq.length = 2) : zMeh (zVm l D B O) m_L_move hh_move 8 9 846 [.ref b, .int a1, .int a2, .ref q] G.2 (wQ q c 0 (.long a.toInt64) H1) (fun _ _ => False) := by
  refine zMeh.of (by decide +kernel) (Nat.le_of_ble_eq_true rfl) [some (.ref b), some (.int a1), some (.int a2), some (.ref q), none] (fun ls h => zEn_ok (n := 5) h) ?_
  refine Zh.blk (pc' := 4) (L' := [some (.ref b), some (.int a1), some (.int a2), some (.ref q), none]) (st' := [.int a2, .int a1, .ref b, .ref q]) (sg := [(.aload_n 3, 0), (.aload_n 0, 0), (.iload_n 1, 0), (.iload_n 2, 0)]) (by decide +kernel) rfl ?_
  refine Zh.oV (E := xIG) (As := [.int a1, .int a2]) (b := b) (st := [.ref q]) (n := 2) (a := .int a) hV.1 (k_X_move hV G b a1 a2) hF h1 h2 h3 cb_X_move lk_L_74 in_X_move se_X_move hb (by decide +kernel) rfl rfl (Nat.le_of_ble_eq_true rfl) (Nat.le_refl _) (fun h0 => ?_) (fun h0 => ?_)
  · obtain rfl | rfl : c = 1 ∨ c = 2 := by omega
    · exact ⟨14, ⟨[], [⟨0, 11, 18, 21⟩], ⟨0, 11, 14, 19⟩, _, rfl, fun z hz => absurd hz List.not_mem_nil, by decide, by decide, ck_L_19, ca_IOE, rfl⟩, fun G' q9 g1 g2 g3 => Zh.blk (pc' := 17) (L' := [some (.ref b), some (.int a1), some (.int a2), some (.ref q), some (.ref q9)]) (st' := [.int (nI 1)]) (sg := [(.astore 4, 0), (.iconst 1, nI 1)]) (by decide +kernel) rfl (Zh.iret rfl rfl (by decide +kernel) ⟨rfl, g2, fun z _ => by rw [g3], fq, by rw [g3]; exact hq, hl, fun h9 => absurd h9 (by decide)⟩)⟩
    · exact ⟨18, ⟨[⟨0, 11, 14, 19⟩], [], ⟨0, 11, 18, 21⟩, _, rfl, List.forall_mem_cons.mpr ⟨⟨by decide, _, ck_L_19, fun U H h9 => (hN U H h9).1⟩, fun z hz => absurd hz List.not_mem_nil⟩, by decide, by decide, ck_L_21, ca_IAE, rfl⟩, fun G' q9 g1 g2 g3 => Zh.blk (pc' := 21) (L' := [some (.ref b), some (.int a1), some (.int a2), some (.ref q), some (.ref q9)]) (st' := [.int (nI 2)]) (sg := [(.astore 4, 0), (.iconst 2, nI 2)]) (by decide +kernel) rfl (Zh.iret rfl rfl (by decide +kernel) ⟨rfl, g2, fun z _ => by rw [g3], fq, by rw [g3]; exact hq, hl, fun h9 => absurd h9 (by decide)⟩)⟩
  · subst h0
    refine Zh.blk (pc' := 8) (L' := [some (.ref b), some (.int a1), some (.int a2), some (.ref q), none]) (st' := [.long a.toInt64, .ref q]) (sg := [(.i2l, 0)]) (by decide +kernel) rfl ?_
    refine Zh.putn (fs := fq) (ty := .long) (v := .long a.toInt64) fn_L_13 (by decide) (by decide +kernel) hq (by rw [hl]; decide) rfl rfl ?_
    refine Zh.goto (off := 11) (tgt := 22) (by decide +kernel) (by decide) ?_
    refine Zh.blk (pc' := 23) (L' := [some (.ref b), some (.int a1), some (.int a2), some (.ref q), none]) (st' := [.int (nI 0)]) (sg := [(.iconst 0, nI 0)]) (by decide +kernel) rfl ?_
    exact Zh.iret rfl rfl (by decide +kernel) ⟨rfl, Nat.le_refl _, fun z hz => zUp_ne _ _ hz, _, zUp_at _ _ _, by rw [List.length_set]; exact hl, fun _ => by rw [List.getElem?_set_self (by rw [hl]; decide)]⟩
def m_L_exchange : zM := (⟨"PartlisterLaw", "exchange", "(LPartlister;IIILPartlisterLaw$Out;)I"⟩, method_19_code, 6, some .int)
def hh_exchange : zHh := [(0, 20, 23, 19)]
theorem cb_L_exchange : zCbh m_L_exchange hh_exchange 5 := ⟨zU4 3 (cChkW_ok (by decide +kernel)) g_codeWith, ini_L, pln100, pld102, by decide⟩
theorem st_L_exchange : Cond.static m_L_exchange.1 ∈ zT := zU4 2 (by decide +kernel) g_static
theorem lk_L_230 : Cond.methodLink "PartlisterLaw" 230 m_L_exchange.1 ∈ zT := zU4 1 (by decide +kernel) g_methodLink
set_option maxRecDepth 20000 in
theorem h_exchange {l : Launch} {D : va_G} {B : Nat} {O : State → Heap → Prop} (hV : zG l D B O) (hN : zNo O) (G : gH) (b q : Nat) (a1 : Int32) (a2 : Int32) (a3 : Int32) {fs fq : List Value} (hb : G.2.2 b = some (.inr (3, fs))) {c : Nat} {a : Int32} {H1 : gH} (hc : c ≤ 1) (hF : f_X_exchange G b a1 a2 a3 = oV xI1 c (.int a) H1) (h1 : H1.1 ≤ G.1 + 840) (h2 : H1.2.1 ≤ G.2.1 + 8) (h3 : G.2.1 ≤ H1.2.1) (hq : H1.2.2 q = some (.inr (7, fq))) (hl : fq.length = 2) : zMeh (zVm l D B O) m_L_exchange hh_exchange 8 9 846 [.ref b, .int a1, .int a2, .int a3, .ref q] G.2 (wQ q c 0 (.long (if a = 0 then lN 0 else lN 1)) H1) (fun _ _ => False) := by
  refine zMeh.of (by decide +kernel) (Nat.le_of_ble_eq_true rfl) [some (.ref b), some (.int a1), some (.int a2), some (.int a3), some (.ref q), none] (fun ls h => zEn_ok (n := 6) h) ?_
  refine Zh.blk (pc' := 6) (L' := [some (.ref b), some (.int a1), some (.int a2), some (.int a3), some (.ref q), none]) (st' := [.int a3, .int a2, .int a1, .ref b, .ref q]) (sg := [(.aload 4, 0), (.aload_n 0, 0), (.iload_n 1, 0), (.iload_n 2, 0), (.iload_n 3, 0)]) (by decide +kernel) rfl ?_
  refine Zh.oV (E := xI1) (As := [.int a1, .int a2, .int a3]) (b := b) (st := [.ref q]) (n := 3) (a := .int a) hV.1 (k_X_exchange hV G b a1 a2 a3) hF h1 h2 h3 cb_X_exchange lk_L_77 in_X_exchange se_X_exchange hb (by decide +kernel) rfl rfl (Nat.le_of_ble_eq_true rfl) (Nat.le_refl _) (fun h0 => ?_) (fun h0 => ?_)
  · obtain rfl : c = 1 := by omega
    · exact ⟨23, ⟨[], [], ⟨0, 20, 23, 19⟩, _, rfl, fun z hz => absurd hz List.not_mem_nil, by decide, by decide, ck_L_19, ca_IOE, rfl⟩, fun G' q9 g1 g2 g3 => Zh.blk (pc' := 26) (L' := [some (.ref b), some (.int a1), some (.int a2), some (.int a3), some (.ref q), some (.ref q9)]) (st' := [.int (nI 1)]) (sg := [(.astore 5, 0), (.iconst 1, nI 1)]) (by decide +kernel) rfl (Zh.iret rfl rfl (by decide +kernel) ⟨rfl, g2, fun z _ => by rw [g3], fq, by rw [g3]; exact hq, hl, fun h9 => absurd h9 (by decide)⟩)⟩
  · subst h0
    refine Zh.if_eq (off := 7) (tgt := 16) (by decide +kernel) (by decide) (fun e0 => ?_) (fun e0 => ?_)
    · refine Zh.blk (pc' := 17) (L' := [some (.ref b), some (.int a1), some (.int a2), some (.int a3), some (.ref q), none]) (st' := [.long (lN 0), .ref q]) (sg := [(.lconst 0, 0)]) (by decide +kernel) rfl ?_
      refine Zh.putn (fs := fq) (ty := .long) (v := .long (lN 0)) fn_L_13 (by decide) (by decide +kernel) hq (by rw [hl]; decide) rfl rfl ?_
      refine Zh.goto (off := 7) (tgt := 27) (by decide +kernel) (by decide) ?_
      refine Zh.blk (pc' := 28) (L' := [some (.ref b), some (.int a1), some (.int a2), some (.int a3), some (.ref q), none]) (st' := [.int (nI 0)]) (sg := [(.iconst 0, nI 0)]) (by decide +kernel) rfl ?_
      exact Zh.iret rfl rfl (by decide +kernel) ⟨rfl, Nat.le_refl _, fun z hz => zUp_ne _ _ hz, _, zUp_at _ _ _, by rw [List.length_set]; exact hl, fun _ => by rw [List.getElem?_set_self (by rw [hl]; decide), if_pos e0]⟩
    · refine Zh.blk (pc' := 13) (L' := [some (.ref b), some (.int a1), some (.int a2), some (.int a3), some (.ref q), none]) (st' := [.long (lN 1), .ref q]) (sg := [(.lconst 1, 0)]) (by decide +kernel) rfl ?_
      refine Zh.goto (off := 4) (tgt := 17) (by decide +kernel) (by decide) ?_
      refine Zh.putn (fs := fq) (ty := .long) (v := .long (lN 1)) fn_L_13 (by decide) (by decide +kernel) hq (by rw [hl]; decide) rfl rfl ?_
      refine Zh.goto (off := 7) (tgt := 27) (by decide +kernel) (by decide) ?_
      refine Zh.blk (pc' := 28) (L' := [some (.ref b), some (.int a1), some (.int a2), some (.int a3), some (.ref q), none]) (st' := [.int (nI 0)]) (sg := [(.iconst 0, nI 0)]) (by decide +kernel) rfl ?_
      exact Zh.iret rfl rfl (by decide +kernel) ⟨rfl, Nat.le_refl _, fun z hz => zUp_ne _ _ hz, _, zUp_at _ _ _, by rw [List.length_set]; exact hl, fun _ => by rw [List.getElem?_set_self (by rw [hl]; decide), if_neg e0]⟩
def m_L_part : zM := (⟨"PartlisterLaw", "part", "(LPartlister;IIILPartlisterLaw$Out;)I"⟩, method_20_code, 6, some .int)
def hh_part : zHh := [(0, 13, 16, 19), (0, 13, 20, 23)]
theorem cb_L_part : zCbh m_L_part hh_part 5 := ⟨zU4 10 (cChkW_ok (by decide +kernel)) g_codeWith, ini_L, pln100, pld102, by decide⟩
theorem st_L_part : Cond.static m_L_part.1 ∈ zT := zU4 9 (by decide +kernel) g_static
theorem lk_L_233 : Cond.methodLink "PartlisterLaw" 233 m_L_part.1 ∈ zT := zU4 8 (by decide +kernel) g_methodLink
set_option maxRecDepth 20000 in
theorem h_part {l : Launch} {D : va_G} {B : Nat} {O : State → Heap → Prop} (hV : zG l D B O) (hN : zNo O) (G : gH) (b q : Nat) (a1 : Int32) (a2 : Int32) (a3 : Int32) {fs fq : List Value} (hb : G.2.2 b = some (.inr (3, fs))) {c : Nat} {a : Int32} {H1 : gH} (hc : c ≤ 2) (hF : f_X_part G b a1 a2 a3 = oV xIS c (.int a) H1) (h1 : H1.1 ≤ G.1 + 840) (h2 : H1.2.1 ≤ G.2.1 + 8) (h3 : G.2.1 ≤ H1.2.1) (hq : H1.2.2 q = some (.inr (7, fq))) (hl : fq.length = 2) : zMeh (zVm l D B O) m_L_part hh_part 8 9 846 [.ref b, .int a1, .int a2, .int a3, .ref q] G.2 (wQ q c 0 (.long a.toInt64) H1) (fun _ _ => False) := by
  refine zMeh.of (by decide +kernel) (Nat.le_of_ble_eq_true rfl) [some (.ref b), some (.int a1), some (.int a2), some (.int a3), some (.ref q), none] (fun ls h => zEn_ok (n := 6) h) ?_
  refine Zh.blk (pc' := 6) (L' := [some (.ref b), some (.int a1), some (.int a2), some (.int a3), some (.ref q), none]) (st' := [.int a3, .int a2, .int a1, .ref b, .ref q]) (sg := [(.aload 4, 0), (.aload_n 0, 0), (.iload_n 1, 0), (.iload_n 2, 0), (.iload_n 3, 0)]) (by decide +kernel) rfl ?_
  refine Zh.oV (E := xIS) (As := [.int a1, .int a2, .int a3]) (b := b) (st := [.ref q]) (n := 3) (a := .int a) hV.1 (k_X_part hV G b a1 a2 a3) hF h1 h2 h3 cb_X_part lk_L_81 in_X_part se_X_part hb (by decide +kernel) rfl rfl (Nat.le_of_ble_eq_true rfl) (Nat.le_refl _) (fun h0 => ?_) (fun h0 => ?_)
  · obtain rfl | rfl : c = 1 ∨ c = 2 := by omega
    · exact ⟨16, ⟨[], [⟨0, 13, 20, 23⟩], ⟨0, 13, 16, 19⟩, _, rfl, fun z hz => absurd hz List.not_mem_nil, by decide, by decide, ck_L_19, ca_IOE, rfl⟩, fun G' q9 g1 g2 g3 => Zh.blk (pc' := 19) (L' := [some (.ref b), some (.int a1), some (.int a2), some (.int a3), some (.ref q), some (.ref q9)]) (st' := [.int (nI 1)]) (sg := [(.astore 5, 0), (.iconst 1, nI 1)]) (by decide +kernel) rfl (Zh.iret rfl rfl (by decide +kernel) ⟨rfl, g2, fun z _ => by rw [g3], fq, by rw [g3]; exact hq, hl, fun h9 => absurd h9 (by decide)⟩)⟩
    · exact ⟨20, ⟨[⟨0, 13, 16, 19⟩], [], ⟨0, 13, 20, 23⟩, _, rfl, List.forall_mem_cons.mpr ⟨⟨by decide, _, ck_L_19, fun U H h9 => (hN U H h9).2.1⟩, fun z hz => absurd hz List.not_mem_nil⟩, by decide, by decide, ck_L_23, ca_ISE, rfl⟩, fun G' q9 g1 g2 g3 => Zh.blk (pc' := 23) (L' := [some (.ref b), some (.int a1), some (.int a2), some (.int a3), some (.ref q), some (.ref q9)]) (st' := [.int (nI 2)]) (sg := [(.astore 5, 0), (.iconst 2, nI 2)]) (by decide +kernel) rfl (Zh.iret rfl rfl (by decide +kernel) ⟨rfl, g2, fun z _ => by rw [g3], fq, by rw [g3]; exact hq, hl, fun h9 => absurd h9 (by decide)⟩)⟩
  · subst h0
    refine Zh.blk (pc' := 10) (L' := [some (.ref b), some (.int a1), some (.int a2), some (.int a3), some (.ref q), none]) (st' := [.long a.toInt64, .ref q]) (sg := [(.i2l, 0)]) (by decide +kernel) rfl ?_
    refine Zh.putn (fs := fq) (ty := .long) (v := .long a.toInt64) fn_L_13 (by decide) (by decide +kernel) hq (by rw [hl]; decide) rfl rfl ?_
    refine Zh.goto (off := 11) (tgt := 24) (by decide +kernel) (by decide) ?_
    refine Zh.blk (pc' := 25) (L' := [some (.ref b), some (.int a1), some (.int a2), some (.int a3), some (.ref q), none]) (st' := [.int (nI 0)]) (sg := [(.iconst 0, nI 0)]) (by decide +kernel) rfl ?_
    exact Zh.iret rfl rfl (by decide +kernel) ⟨rfl, Nat.le_refl _, fun z hz => zUp_ne _ _ hz, _, zUp_at _ _ _, by rw [List.length_set]; exact hl, fun _ => by rw [List.getElem?_set_self (by rw [hl]; decide)]⟩
def m_L_close : zM := (⟨"PartlisterLaw", "close", "(LPartlister;ILPartlisterLaw$Out;)I"⟩, method_21_code, 4, some .int)
def hh_close : zHh := [(0, 10, 13, 19)]
theorem cb_L_close : zCbh m_L_close hh_close 3 := ⟨zU4 27 (cChkW_ok (by decide +kernel)) g_codeWith, ini_L, pln100, pld103, by decide⟩
theorem st_L_close : Cond.static m_L_close.1 ∈ zT := zU4 26 (by decide +kernel) g_static
theorem lk_L_236 : Cond.methodLink "PartlisterLaw" 236 m_L_close.1 ∈ zT := zU4 25 (by decide +kernel) g_methodLink
set_option maxRecDepth 20000 in
theorem h_close {l : Launch} {D : va_G} {B : Nat} {O : State → Heap → Prop} (hV : zG l D B O) (hN : zNo O) (G : gH) (b q : Nat) (a1 : Int32) {fs fq : List Value} (hb : G.2.2 b = some (.inr (3, fs))) {c : Nat} {a : Int32} {H1 : gH} (hc : c ≤ 1) (hF : f_X_close G b a1 = oV xI1 c (.int a) H1) (h1 : H1.1 ≤ G.1 + 840) (h2 : H1.2.1 ≤ G.2.1 + 8) (h3 : G.2.1 ≤ H1.2.1) (hq : H1.2.2 q = some (.inr (7, fq))) (hl : fq.length = 2) : zMeh (zVm l D B O) m_L_close hh_close 8 9 846 [.ref b, .int a1, .ref q] G.2 (wQ q c 0 (.long a.toInt64) H1) (fun _ _ => False) := by
  refine zMeh.of (by decide +kernel) (Nat.le_of_ble_eq_true rfl) [some (.ref b), some (.int a1), some (.ref q), none] (fun ls h => zEn_ok (n := 4) h) ?_
  refine Zh.blk (pc' := 3) (L' := [some (.ref b), some (.int a1), some (.ref q), none]) (st' := [.int a1, .ref b, .ref q]) (sg := [(.aload_n 2, 0), (.aload_n 0, 0), (.iload_n 1, 0)]) (by decide +kernel) rfl ?_
  refine Zh.oV (E := xI1) (As := [.int a1]) (b := b) (st := [.ref q]) (n := 1) (a := .int a) hV.1 (k_X_close hV G b a1) hF h1 h2 h3 cb_X_close lk_L_84 in_X_close se_X_close hb (by decide +kernel) rfl rfl (Nat.le_of_ble_eq_true rfl) (Nat.le_refl _) (fun h0 => ?_) (fun h0 => ?_)
  · obtain rfl : c = 1 := by omega
    · exact ⟨13, ⟨[], [], ⟨0, 10, 13, 19⟩, _, rfl, fun z hz => absurd hz List.not_mem_nil, by decide, by decide, ck_L_19, ca_IOE, rfl⟩, fun G' q9 g1 g2 g3 => Zh.blk (pc' := 15) (L' := [some (.ref b), some (.int a1), some (.ref q), some (.ref q9)]) (st' := [.int (nI 1)]) (sg := [(.astore_n 3, 0), (.iconst 1, nI 1)]) (by decide +kernel) rfl (Zh.iret rfl rfl (by decide +kernel) ⟨rfl, g2, fun z _ => by rw [g3], fq, by rw [g3]; exact hq, hl, fun h9 => absurd h9 (by decide)⟩)⟩
  · subst h0
    refine Zh.blk (pc' := 7) (L' := [some (.ref b), some (.int a1), some (.ref q), none]) (st' := [.long a.toInt64, .ref q]) (sg := [(.i2l, 0)]) (by decide +kernel) rfl ?_
    refine Zh.putn (fs := fq) (ty := .long) (v := .long a.toInt64) fn_L_13 (by decide) (by decide +kernel) hq (by rw [hl]; decide) rfl rfl ?_
    refine Zh.goto (off := 6) (tgt := 16) (by decide +kernel) (by decide) ?_
    refine Zh.blk (pc' := 17) (L' := [some (.ref b), some (.int a1), some (.ref q), none]) (st' := [.int (nI 0)]) (sg := [(.iconst 0, nI 0)]) (by decide +kernel) rfl ?_
    exact Zh.iret rfl rfl (by decide +kernel) ⟨rfl, Nat.le_refl _, fun z hz => zUp_ne _ _ hz, _, zUp_at _ _ _, by rw [List.length_set]; exact hl, fun _ => by rw [List.getElem?_set_self (by rw [hl]; decide)]⟩
def m_L_cursor : zM := (⟨"PartlisterLaw", "cursor", "(LPartlister;IILPartlisterLaw$Out;)I"⟩, method_22_code, 5, some .int)
def hh_cursor : zHh := [(0, 11, 14, 19), (0, 11, 18, 23)]
theorem cb_L_cursor : zCbh m_L_cursor hh_cursor 4 := ⟨zU4 43 (cChkW_ok (by decide +kernel)) g_codeWith, ini_L, pln100, pld101, by decide⟩
theorem st_L_cursor : Cond.static m_L_cursor.1 ∈ zT := zU4 42 (by decide +kernel) g_static
theorem lk_L_239 : Cond.methodLink "PartlisterLaw" 239 m_L_cursor.1 ∈ zT := zU4 41 (by decide +kernel) g_methodLink
set_option maxRecDepth 20000 in
theorem h_cursor {l : Launch} {D : va_G} {B : Nat} {O : State → Heap → Prop} (hV : zG l D B O) (hN : zNo O) (G : gH) (b q : Nat) (a1 : Int32) (a2 : Int32) {fs fq : List Value} (hb : G.2.2 b = some (.inr (3, fs))) {c : Nat} {a : Int32} {H1 : gH} (hc : c ≤ 2) (hF : f_X_cursor G b a1 a2 = oV xIS c (.int a) H1) (h1 : H1.1 ≤ G.1 + 840) (h2 : H1.2.1 ≤ G.2.1 + 8) (h3 : G.2.1 ≤ H1.2.1) (hq : H1.2.2 q = some (.inr (7, fq))) (hl : fq.length = 2) : zMeh (zVm l D B O) m_L_cursor hh_cursor 8 9 846 [.ref b, .int a1, .int a2, .ref q] G.2 (wQ q c 0 (.long a.toInt64) H1) (fun _ _ => False) := by
  refine zMeh.of (by decide +kernel) (Nat.le_of_ble_eq_true rfl) [some (.ref b), some (.int a1), some (.int a2), some (.ref q), none] (fun ls h => zEn_ok (n := 5) h) ?_
  refine Zh.blk (pc' := 4) (L' := [some (.ref b), some (.int a1), some (.int a2), some (.ref q), none]) (st' := [.int a2, .int a1, .ref b, .ref q]) (sg := [(.aload_n 3, 0), (.aload_n 0, 0), (.iload_n 1, 0), (.iload_n 2, 0)]) (by decide +kernel) rfl ?_
  refine Zh.oV (E := xIS) (As := [.int a1, .int a2]) (b := b) (st := [.ref q]) (n := 2) (a := .int a) hV.1 (k_X_cursor hV G b a1 a2) hF h1 h2 h3 cb_X_cursor lk_L_87 in_X_cursor se_X_cursor hb (by decide +kernel) rfl rfl (Nat.le_of_ble_eq_true rfl) (Nat.le_refl _) (fun h0 => ?_) (fun h0 => ?_)
  · obtain rfl | rfl : c = 1 ∨ c = 2 := by omega
    · exact ⟨14, ⟨[], [⟨0, 11, 18, 23⟩], ⟨0, 11, 14, 19⟩, _, rfl, fun z hz => absurd hz List.not_mem_nil, by decide, by decide, ck_L_19, ca_IOE, rfl⟩, fun G' q9 g1 g2 g3 => Zh.blk (pc' := 17) (L' := [some (.ref b), some (.int a1), some (.int a2), some (.ref q), some (.ref q9)]) (st' := [.int (nI 1)]) (sg := [(.astore 4, 0), (.iconst 1, nI 1)]) (by decide +kernel) rfl (Zh.iret rfl rfl (by decide +kernel) ⟨rfl, g2, fun z _ => by rw [g3], fq, by rw [g3]; exact hq, hl, fun h9 => absurd h9 (by decide)⟩)⟩
    · exact ⟨18, ⟨[⟨0, 11, 14, 19⟩], [], ⟨0, 11, 18, 23⟩, _, rfl, List.forall_mem_cons.mpr ⟨⟨by decide, _, ck_L_19, fun U H h9 => (hN U H h9).2.1⟩, fun z hz => absurd hz List.not_mem_nil⟩, by decide, by decide, ck_L_23, ca_ISE, rfl⟩, fun G' q9 g1 g2 g3 => Zh.blk (pc' := 21) (L' := [some (.ref b), some (.int a1), some (.int a2), some (.ref q), some (.ref q9)]) (st' := [.int (nI 2)]) (sg := [(.astore 4, 0), (.iconst 2, nI 2)]) (by decide +kernel) rfl (Zh.iret rfl rfl (by decide +kernel) ⟨rfl, g2, fun z _ => by rw [g3], fq, by rw [g3]; exact hq, hl, fun h9 => absurd h9 (by decide)⟩)⟩
  · subst h0
    refine Zh.blk (pc' := 8) (L' := [some (.ref b), some (.int a1), some (.int a2), some (.ref q), none]) (st' := [.long a.toInt64, .ref q]) (sg := [(.i2l, 0)]) (by decide +kernel) rfl ?_
    refine Zh.putn (fs := fq) (ty := .long) (v := .long a.toInt64) fn_L_13 (by decide) (by decide +kernel) hq (by rw [hl]; decide) rfl rfl ?_
    refine Zh.goto (off := 11) (tgt := 22) (by decide +kernel) (by decide) ?_
    refine Zh.blk (pc' := 23) (L' := [some (.ref b), some (.int a1), some (.int a2), some (.ref q), none]) (st' := [.int (nI 0)]) (sg := [(.iconst 0, nI 0)]) (by decide +kernel) rfl ?_
    exact Zh.iret rfl rfl (by decide +kernel) ⟨rfl, Nat.le_refl _, fun z hz => zUp_ne _ _ hz, _, zUp_at _ _ _, by rw [List.length_set]; exact hl, fun _ => by rw [List.getElem?_set_self (by rw [hl]; decide)]⟩
def m_L_next : zM := (⟨"PartlisterLaw", "next", "(LPartlister;ILPartlisterLaw$Out;)I"⟩, method_23_code, 4, some .int)
def hh_next : zHh := [(0, 10, 13, 19)]
theorem cb_L_next : zCbh m_L_next hh_next 3 := ⟨zU4 63 (cChkW_ok (by decide +kernel)) g_codeWith, ini_L, pln100, pld103, by decide⟩
theorem st_L_next : Cond.static m_L_next.1 ∈ zT := zU4 62 (by decide +kernel) g_static
theorem lk_L_242 : Cond.methodLink "PartlisterLaw" 242 m_L_next.1 ∈ zT := zU4 61 (by decide +kernel) g_methodLink
set_option maxRecDepth 20000 in
theorem h_next {l : Launch} {D : va_G} {B : Nat} {O : State → Heap → Prop} (hV : zG l D B O) (hN : zNo O) (G : gH) (b q : Nat) (a1 : Int32) {fs fq : List Value} (hb : G.2.2 b = some (.inr (3, fs))) {c : Nat} {a : Int32} {H1 : gH} (hc : c ≤ 1) (hF : f_X_next G b a1 = oV xI1 c (.int a) H1) (h1 : H1.1 ≤ G.1 + 840) (h2 : H1.2.1 ≤ G.2.1 + 8) (h3 : G.2.1 ≤ H1.2.1) (hq : H1.2.2 q = some (.inr (7, fq))) (hl : fq.length = 2) : zMeh (zVm l D B O) m_L_next hh_next 8 9 846 [.ref b, .int a1, .ref q] G.2 (wQ q c 0 (.long a.toInt64) H1) (fun _ _ => False) := by
  refine zMeh.of (by decide +kernel) (Nat.le_of_ble_eq_true rfl) [some (.ref b), some (.int a1), some (.ref q), none] (fun ls h => zEn_ok (n := 4) h) ?_
  refine Zh.blk (pc' := 3) (L' := [some (.ref b), some (.int a1), some (.ref q), none]) (st' := [.int a1, .ref b, .ref q]) (sg := [(.aload_n 2, 0), (.aload_n 0, 0), (.iload_n 1, 0)]) (by decide +kernel) rfl ?_
  refine Zh.oV (E := xI1) (As := [.int a1]) (b := b) (st := [.ref q]) (n := 1) (a := .int a) hV.1 (k_X_next hV G b a1) hF h1 h2 h3 cb_X_next lk_L_90 in_X_next se_X_next hb (by decide +kernel) rfl rfl (Nat.le_of_ble_eq_true rfl) (Nat.le_refl _) (fun h0 => ?_) (fun h0 => ?_)
  · obtain rfl : c = 1 := by omega
    · exact ⟨13, ⟨[], [], ⟨0, 10, 13, 19⟩, _, rfl, fun z hz => absurd hz List.not_mem_nil, by decide, by decide, ck_L_19, ca_IOE, rfl⟩, fun G' q9 g1 g2 g3 => Zh.blk (pc' := 15) (L' := [some (.ref b), some (.int a1), some (.ref q), some (.ref q9)]) (st' := [.int (nI 1)]) (sg := [(.astore_n 3, 0), (.iconst 1, nI 1)]) (by decide +kernel) rfl (Zh.iret rfl rfl (by decide +kernel) ⟨rfl, g2, fun z _ => by rw [g3], fq, by rw [g3]; exact hq, hl, fun h9 => absurd h9 (by decide)⟩)⟩
  · subst h0
    refine Zh.blk (pc' := 7) (L' := [some (.ref b), some (.int a1), some (.ref q), none]) (st' := [.long a.toInt64, .ref q]) (sg := [(.i2l, 0)]) (by decide +kernel) rfl ?_
    refine Zh.putn (fs := fq) (ty := .long) (v := .long a.toInt64) fn_L_13 (by decide) (by decide +kernel) hq (by rw [hl]; decide) rfl rfl ?_
    refine Zh.goto (off := 6) (tgt := 16) (by decide +kernel) (by decide) ?_
    refine Zh.blk (pc' := 17) (L' := [some (.ref b), some (.int a1), some (.ref q), none]) (st' := [.int (nI 0)]) (sg := [(.iconst 0, nI 0)]) (by decide +kernel) rfl ?_
    exact Zh.iret rfl rfl (by decide +kernel) ⟨rfl, Nat.le_refl _, fun z hz => zUp_ne _ _ hz, _, zUp_at _ _ _, by rw [List.length_set]; exact hl, fun _ => by rw [List.getElem?_set_self (by rw [hl]; decide)]⟩
def m_L_previous : zM := (⟨"PartlisterLaw", "previous", "(LPartlister;ILPartlisterLaw$Out;)I"⟩, method_24_code, 4, some .int)
def hh_previous : zHh := [(0, 10, 13, 19)]
theorem cb_L_previous : zCbh m_L_previous hh_previous 3 := ⟨zU4 80 (cChkW_ok (by decide +kernel)) g_codeWith, ini_L, pln100, pld103, by decide⟩
theorem st_L_previous : Cond.static m_L_previous.1 ∈ zT := zU4 79 (by decide +kernel) g_static
theorem lk_L_245 : Cond.methodLink "PartlisterLaw" 245 m_L_previous.1 ∈ zT := zU4 78 (by decide +kernel) g_methodLink
set_option maxRecDepth 20000 in
theorem h_previous {l : Launch} {D : va_G} {B : Nat} {O : State → Heap → Prop} (hV : zG l D B O) (hN : zNo O) (G : gH) (b q : Nat) (a1 : Int32) {fs fq : List Value} (hb : G.2.2 b = some (.inr (3, fs))) {c : Nat} {a : Int32} {H1 : gH} (hc : c ≤ 1) (hF : f_X_previous G b a1 = oV xI1 c (.int a) H1) (h1 : H1.1 ≤ G.1 + 840) (h2 : H1.2.1 ≤ G.2.1 + 8) (h3 : G.2.1 ≤ H1.2.1) (hq : H1.2.2 q = some (.inr (7, fq))) (hl : fq.length = 2) : zMeh (zVm l D B O) m_L_previous hh_previous 8 9 846 [.ref b, .int a1, .ref q] G.2 (wQ q c 0 (.long a.toInt64) H1) (fun _ _ => False) := by
  refine zMeh.of (by decide +kernel) (Nat.le_of_ble_eq_true rfl) [some (.ref b), some (.int a1), some (.ref q), none] (fun ls h => zEn_ok (n := 4) h) ?_
  refine Zh.blk (pc' := 3) (L' := [some (.ref b), some (.int a1), some (.ref q), none]) (st' := [.int a1, .ref b, .ref q]) (sg := [(.aload_n 2, 0), (.aload_n 0, 0), (.iload_n 1, 0)]) (by decide +kernel) rfl ?_
  refine Zh.oV (E := xI1) (As := [.int a1]) (b := b) (st := [.ref q]) (n := 1) (a := .int a) hV.1 (k_X_previous hV G b a1) hF h1 h2 h3 cb_X_previous lk_L_93 in_X_previous se_X_previous hb (by decide +kernel) rfl rfl (Nat.le_of_ble_eq_true rfl) (Nat.le_refl _) (fun h0 => ?_) (fun h0 => ?_)
  · obtain rfl : c = 1 := by omega
    · exact ⟨13, ⟨[], [], ⟨0, 10, 13, 19⟩, _, rfl, fun z hz => absurd hz List.not_mem_nil, by decide, by decide, ck_L_19, ca_IOE, rfl⟩, fun G' q9 g1 g2 g3 => Zh.blk (pc' := 15) (L' := [some (.ref b), some (.int a1), some (.ref q), some (.ref q9)]) (st' := [.int (nI 1)]) (sg := [(.astore_n 3, 0), (.iconst 1, nI 1)]) (by decide +kernel) rfl (Zh.iret rfl rfl (by decide +kernel) ⟨rfl, g2, fun z _ => by rw [g3], fq, by rw [g3]; exact hq, hl, fun h9 => absurd h9 (by decide)⟩)⟩
  · subst h0
    refine Zh.blk (pc' := 7) (L' := [some (.ref b), some (.int a1), some (.ref q), none]) (st' := [.long a.toInt64, .ref q]) (sg := [(.i2l, 0)]) (by decide +kernel) rfl ?_
    refine Zh.putn (fs := fq) (ty := .long) (v := .long a.toInt64) fn_L_13 (by decide) (by decide +kernel) hq (by rw [hl]; decide) rfl rfl ?_
    refine Zh.goto (off := 6) (tgt := 16) (by decide +kernel) (by decide) ?_
    refine Zh.blk (pc' := 17) (L' := [some (.ref b), some (.int a1), some (.ref q), none]) (st' := [.int (nI 0)]) (sg := [(.iconst 0, nI 0)]) (by decide +kernel) rfl ?_
    exact Zh.iret rfl rfl (by decide +kernel) ⟨rfl, Nat.le_refl _, fun z hz => zUp_ne _ _ hz, _, zUp_at _ _ _, by rw [List.length_set]; exact hl, fun _ => by rw [List.getElem?_set_self (by rw [hl]; decide)]⟩
def m_L_put : zM := (⟨"PartlisterLaw", "put", "(LPartlister;IILPartlisterLaw$Out;)I"⟩, method_25_code, 5, some .int)
def hh_put : zHh := [(0, 11, 14, 19), (0, 11, 18, 21)]
theorem cb_L_put : zCbh m_L_put hh_put 4 := ⟨zU4 87 (cChkW_ok (by decide +kernel)) g_codeWith, ini_L, pln100, pld101, by decide⟩
theorem st_L_put : Cond.static m_L_put.1 ∈ zT := zU4 86 (by decide +kernel) g_static
theorem lk_L_248 : Cond.methodLink "PartlisterLaw" 248 m_L_put.1 ∈ zT := zU4 85 (by decide +kernel) g_methodLink
set_option maxRecDepth 20000 in
theorem h_put {l : Launch} {D : va_G} {B : Nat} {O : State → Heap → Prop} (hV : zG l D B O) (hN : zNo O) (G : gH) (b q : Nat) (a1 : Int32) (a2 : Int32) {fs fq : List Value} (hb : G.2.2 b = some (.inr (3, fs))) {c : Nat} {a : Int32} {H1 : gH} (hc : c ≤ 2) (hF : f_X_put G b a1 a2 = oV xIG c (.int a) H1) (h1 : H1.1 ≤ G.1 + 840) (h2 : H1.2.1 ≤ G.2.1 + 8) (h3 : G.2.1 ≤ H1.2.1) (hq : H1.2.2 q = some (.inr (7, fq))) (hl : fq.length = 2) : zMeh (zVm l D B O) m_L_put hh_put 8 9 846 [.ref b, .int a1, .int a2, .ref q] G.2 (wQ q c 0 (.long a.toInt64) H1) (fun _ _ => False) := by
  refine zMeh.of (by decide +kernel) (Nat.le_of_ble_eq_true rfl) [some (.ref b), some (.int a1), some (.int a2), some (.ref q), none] (fun ls h => zEn_ok (n := 5) h) ?_
  refine Zh.blk (pc' := 4) (L' := [some (.ref b), some (.int a1), some (.int a2), some (.ref q), none]) (st' := [.int a2, .int a1, .ref b, .ref q]) (sg := [(.aload_n 3, 0), (.aload_n 0, 0), (.iload_n 1, 0), (.iload_n 2, 0)]) (by decide +kernel) rfl ?_
  refine Zh.oV (E := xIG) (As := [.int a1, .int a2]) (b := b) (st := [.ref q]) (n := 2) (a := .int a) hV.1 (k_X_put hV G b a1 a2) hF h1 h2 h3 cb_X_put lk_L_96 in_X_put se_X_put hb (by decide +kernel) rfl rfl (Nat.le_of_ble_eq_true rfl) (Nat.le_refl _) (fun h0 => ?_) (fun h0 => ?_)
  · obtain rfl | rfl : c = 1 ∨ c = 2 := by omega
    · exact ⟨14, ⟨[], [⟨0, 11, 18, 21⟩], ⟨0, 11, 14, 19⟩, _, rfl, fun z hz => absurd hz List.not_mem_nil, by decide, by decide, ck_L_19, ca_IOE, rfl⟩, fun G' q9 g1 g2 g3 => Zh.blk (pc' := 17) (L' := [some (.ref b), some (.int a1), some (.int a2), some (.ref q), some (.ref q9)]) (st' := [.int (nI 1)]) (sg := [(.astore 4, 0), (.iconst 1, nI 1)]) (by decide +kernel) rfl (Zh.iret rfl rfl (by decide +kernel) ⟨rfl, g2, fun z _ => by rw [g3], fq, by rw [g3]; exact hq, hl, fun h9 => absurd h9 (by decide)⟩)⟩
    · exact ⟨18, ⟨[⟨0, 11, 14, 19⟩], [], ⟨0, 11, 18, 21⟩, _, rfl, List.forall_mem_cons.mpr ⟨⟨by decide, _, ck_L_19, fun U H h9 => (hN U H h9).1⟩, fun z hz => absurd hz List.not_mem_nil⟩, by decide, by decide, ck_L_21, ca_IAE, rfl⟩, fun G' q9 g1 g2 g3 => Zh.blk (pc' := 21) (L' := [some (.ref b), some (.int a1), some (.int a2), some (.ref q), some (.ref q9)]) (st' := [.int (nI 2)]) (sg := [(.astore 4, 0), (.iconst 2, nI 2)]) (by decide +kernel) rfl (Zh.iret rfl rfl (by decide +kernel) ⟨rfl, g2, fun z _ => by rw [g3], fq, by rw [g3]; exact hq, hl, fun h9 => absurd h9 (by decide)⟩)⟩
  · subst h0
    refine Zh.blk (pc' := 8) (L' := [some (.ref b), some (.int a1), some (.int a2), some (.ref q), none]) (st' := [.long a.toInt64, .ref q]) (sg := [(.i2l, 0)]) (by decide +kernel) rfl ?_
    refine Zh.putn (fs := fq) (ty := .long) (v := .long a.toInt64) fn_L_13 (by decide) (by decide +kernel) hq (by rw [hl]; decide) rfl rfl ?_
    refine Zh.goto (off := 11) (tgt := 22) (by decide +kernel) (by decide) ?_
    refine Zh.blk (pc' := 23) (L' := [some (.ref b), some (.int a1), some (.int a2), some (.ref q), none]) (st' := [.int (nI 0)]) (sg := [(.iconst 0, nI 0)]) (by decide +kernel) rfl ?_
    exact Zh.iret rfl rfl (by decide +kernel) ⟨rfl, Nat.le_refl _, fun z hz => zUp_ne _ _ hz, _, zUp_at _ _ _, by rw [List.length_set]; exact hl, fun _ => by rw [List.getElem?_set_self (by rw [hl]; decide)]⟩
def m_L_drop : zM := (⟨"PartlisterLaw", "drop", "(LPartlister;ILPartlisterLaw$Out;)I"⟩, method_26_code, 4, some .int)
def hh_drop : zHh := [(0, 10, 13, 19)]
theorem cb_L_drop : zCbh m_L_drop hh_drop 3 := ⟨zU4 94 (cChkW_ok (by decide +kernel)) g_codeWith, ini_L, pln100, pld103, by decide⟩
theorem st_L_drop : Cond.static m_L_drop.1 ∈ zT := zU4 93 (by decide +kernel) g_static
theorem lk_L_251 : Cond.methodLink "PartlisterLaw" 251 m_L_drop.1 ∈ zT := zU4 92 (by decide +kernel) g_methodLink
set_option maxRecDepth 20000 in
theorem h_drop {l : Launch} {D : va_G} {B : Nat} {O : State → Heap → Prop} (hV : zG l D B O) (hN : zNo O) (G : gH) (b q : Nat) (a1 : Int32) {fs fq : List Value} (hb : G.2.2 b = some (.inr (3, fs))) {c : Nat} {a : Int32} {H1 : gH} (hc : c ≤ 1) (hF : f_X_drop G b a1 = oV xI1 c (.int a) H1) (h1 : H1.1 ≤ G.1 + 840) (h2 : H1.2.1 ≤ G.2.1 + 8) (h3 : G.2.1 ≤ H1.2.1) (hq : H1.2.2 q = some (.inr (7, fq))) (hl : fq.length = 2) : zMeh (zVm l D B O) m_L_drop hh_drop 8 9 846 [.ref b, .int a1, .ref q] G.2 (wQ q c 0 (.long a.toInt64) H1) (fun _ _ => False) := by
  refine zMeh.of (by decide +kernel) (Nat.le_of_ble_eq_true rfl) [some (.ref b), some (.int a1), some (.ref q), none] (fun ls h => zEn_ok (n := 4) h) ?_
  refine Zh.blk (pc' := 3) (L' := [some (.ref b), some (.int a1), some (.ref q), none]) (st' := [.int a1, .ref b, .ref q]) (sg := [(.aload_n 2, 0), (.aload_n 0, 0), (.iload_n 1, 0)]) (by decide +kernel) rfl ?_
  refine Zh.oV (E := xI1) (As := [.int a1]) (b := b) (st := [.ref q]) (n := 1) (a := .int a) hV.1 (k_X_drop hV G b a1) hF h1 h2 h3 cb_X_drop lk_L_99 in_X_drop se_X_drop hb (by decide +kernel) rfl rfl (Nat.le_of_ble_eq_true rfl) (Nat.le_refl _) (fun h0 => ?_) (fun h0 => ?_)
  · obtain rfl : c = 1 := by omega
    · exact ⟨13, ⟨[], [], ⟨0, 10, 13, 19⟩, _, rfl, fun z hz => absurd hz List.not_mem_nil, by decide, by decide, ck_L_19, ca_IOE, rfl⟩, fun G' q9 g1 g2 g3 => Zh.blk (pc' := 15) (L' := [some (.ref b), some (.int a1), some (.ref q), some (.ref q9)]) (st' := [.int (nI 1)]) (sg := [(.astore_n 3, 0), (.iconst 1, nI 1)]) (by decide +kernel) rfl (Zh.iret rfl rfl (by decide +kernel) ⟨rfl, g2, fun z _ => by rw [g3], fq, by rw [g3]; exact hq, hl, fun h9 => absurd h9 (by decide)⟩)⟩
  · subst h0
    refine Zh.blk (pc' := 7) (L' := [some (.ref b), some (.int a1), some (.ref q), none]) (st' := [.long a.toInt64, .ref q]) (sg := [(.i2l, 0)]) (by decide +kernel) rfl ?_
    refine Zh.putn (fs := fq) (ty := .long) (v := .long a.toInt64) fn_L_13 (by decide) (by decide +kernel) hq (by rw [hl]; decide) rfl rfl ?_
    refine Zh.goto (off := 6) (tgt := 16) (by decide +kernel) (by decide) ?_
    refine Zh.blk (pc' := 17) (L' := [some (.ref b), some (.int a1), some (.ref q), none]) (st' := [.int (nI 0)]) (sg := [(.iconst 0, nI 0)]) (by decide +kernel) rfl ?_
    exact Zh.iret rfl rfl (by decide +kernel) ⟨rfl, Nat.le_refl _, fun z hz => zUp_ne _ _ hz, _, zUp_at _ _ _, by rw [List.length_set]; exact hl, fun _ => by rw [List.getElem?_set_self (by rw [hl]; decide)]⟩
def m_L_insert : zM := (⟨"PartlisterLaw", "insert", "(LPartlister;IILPartlisterLaw$Out;)I"⟩, method_27_code, 5, some .int)
def hh_insert : zHh := [(0, 11, 14, 19), (0, 11, 18, 21), (0, 11, 22, 23)]
theorem cb_L_insert : zCbh m_L_insert hh_insert 4 := ⟨zU4 101 (cChkW_ok (by decide +kernel)) g_codeWith, ini_L, pln100, pld101, by decide⟩
theorem st_L_insert : Cond.static m_L_insert.1 ∈ zT := zU4 100 (by decide +kernel) g_static
theorem lk_L_254 : Cond.methodLink "PartlisterLaw" 254 m_L_insert.1 ∈ zT := zU4 99 (by decide +kernel) g_methodLink
set_option maxRecDepth 20000 in
theorem h_insert {l : Launch} {D : va_G} {B : Nat} {O : State → Heap → Prop} (hV : zG l D B O) (hN : zNo O) (G : gH) (b q : Nat) (a1 : Int32) (a2 : Int32) {fs fq : List Value} (hb : G.2.2 b = some (.inr (3, fs))) {c : Nat} {a : Int32} {H1 : gH} (hc : c ≤ 3) (hF : f_X_insert G b a1 a2 = oV xIAS c (.int a) H1) (h1 : H1.1 ≤ G.1 + 840) (h2 : H1.2.1 ≤ G.2.1 + 8) (h3 : G.2.1 ≤ H1.2.1) (hq : H1.2.2 q = some (.inr (7, fq))) (hl : fq.length = 2) : zMeh (zVm l D B O) m_L_insert hh_insert 8 9 846 [.ref b, .int a1, .int a2, .ref q] G.2 (wQ q c 0 (.long a.toInt64) H1) (fun _ _ => False) := by
  refine zMeh.of (by decide +kernel) (Nat.le_of_ble_eq_true rfl) [some (.ref b), some (.int a1), some (.int a2), some (.ref q), none] (fun ls h => zEn_ok (n := 5) h) ?_
  refine Zh.blk (pc' := 4) (L' := [some (.ref b), some (.int a1), some (.int a2), some (.ref q), none]) (st' := [.int a2, .int a1, .ref b, .ref q]) (sg := [(.aload_n 3, 0), (.aload_n 0, 0), (.iload_n 1, 0), (.iload_n 2, 0)]) (by decide +kernel) rfl ?_
  refine Zh.oV (E := xIAS) (As := [.int a1, .int a2]) (b := b) (st := [.ref q]) (n := 2) (a := .int a) hV.1 (k_X_insert hV G b a1 a2) hF h1 h2 h3 cb_X_insert lk_L_102 in_X_insert se_X_insert hb (by decide +kernel) rfl rfl (Nat.le_of_ble_eq_true rfl) (Nat.le_refl _) (fun h0 => ?_) (fun h0 => ?_)
  · obtain rfl | rfl | rfl : c = 1 ∨ c = 2 ∨ c = 3 := by omega
    · exact ⟨14, ⟨[], [⟨0, 11, 18, 21⟩, ⟨0, 11, 22, 23⟩], ⟨0, 11, 14, 19⟩, _, rfl, fun z hz => absurd hz List.not_mem_nil, by decide, by decide, ck_L_19, ca_IOE, rfl⟩, fun G' q9 g1 g2 g3 => Zh.blk (pc' := 17) (L' := [some (.ref b), some (.int a1), some (.int a2), some (.ref q), some (.ref q9)]) (st' := [.int (nI 1)]) (sg := [(.astore 4, 0), (.iconst 1, nI 1)]) (by decide +kernel) rfl (Zh.iret rfl rfl (by decide +kernel) ⟨rfl, g2, fun z _ => by rw [g3], fq, by rw [g3]; exact hq, hl, fun h9 => absurd h9 (by decide)⟩)⟩
    · exact ⟨18, ⟨[⟨0, 11, 14, 19⟩], [⟨0, 11, 22, 23⟩], ⟨0, 11, 18, 21⟩, _, rfl, List.forall_mem_cons.mpr ⟨⟨by decide, _, ck_L_19, fun U H h9 => (hN U H h9).1⟩, fun z hz => absurd hz List.not_mem_nil⟩, by decide, by decide, ck_L_21, ca_IAE, rfl⟩, fun G' q9 g1 g2 g3 => Zh.blk (pc' := 21) (L' := [some (.ref b), some (.int a1), some (.int a2), some (.ref q), some (.ref q9)]) (st' := [.int (nI 2)]) (sg := [(.astore 4, 0), (.iconst 2, nI 2)]) (by decide +kernel) rfl (Zh.iret rfl rfl (by decide +kernel) ⟨rfl, g2, fun z _ => by rw [g3], fq, by rw [g3]; exact hq, hl, fun h9 => absurd h9 (by decide)⟩)⟩
    · exact ⟨22, ⟨[⟨0, 11, 14, 19⟩, ⟨0, 11, 18, 21⟩], [], ⟨0, 11, 22, 23⟩, _, rfl, List.forall_mem_cons.mpr ⟨⟨by decide, _, ck_L_19, fun U H h9 => (hN U H h9).2.1⟩, List.forall_mem_cons.mpr ⟨⟨by decide, _, ck_L_21, fun U H h9 => (hN U H h9).2.2⟩, fun z hz => absurd hz List.not_mem_nil⟩⟩, by decide, by decide, ck_L_23, ca_ISE, rfl⟩, fun G' q9 g1 g2 g3 => Zh.blk (pc' := 25) (L' := [some (.ref b), some (.int a1), some (.int a2), some (.ref q), some (.ref q9)]) (st' := [.int (nI 3)]) (sg := [(.astore 4, 0), (.iconst 3, nI 3)]) (by decide +kernel) rfl (Zh.iret rfl rfl (by decide +kernel) ⟨rfl, g2, fun z _ => by rw [g3], fq, by rw [g3]; exact hq, hl, fun h9 => absurd h9 (by decide)⟩)⟩
  · subst h0
    refine Zh.blk (pc' := 8) (L' := [some (.ref b), some (.int a1), some (.int a2), some (.ref q), none]) (st' := [.long a.toInt64, .ref q]) (sg := [(.i2l, 0)]) (by decide +kernel) rfl ?_
    refine Zh.putn (fs := fq) (ty := .long) (v := .long a.toInt64) fn_L_13 (by decide) (by decide +kernel) hq (by rw [hl]; decide) rfl rfl ?_
    refine Zh.goto (off := 15) (tgt := 26) (by decide +kernel) (by decide) ?_
    refine Zh.blk (pc' := 27) (L' := [some (.ref b), some (.int a1), some (.int a2), some (.ref q), none]) (st' := [.int (nI 0)]) (sg := [(.iconst 0, nI 0)]) (by decide +kernel) rfl ?_
    exact Zh.iret rfl rfl (by decide +kernel) ⟨rfl, Nat.le_refl _, fun z hz => zUp_ne _ _ hz, _, zUp_at _ _ _, by rw [List.length_set]; exact hl, fun _ => by rw [List.getElem?_set_self (by rw [hl]; decide)]⟩
def m_L_run : zM := (⟨"PartlisterLaw", "run", "(LPartlister;IZLPartlisterLaw$Out;)I"⟩, method_28_code, 5, some .int)
def hh_run : zHh := [(0, 11, 14, 19)]
theorem cb_L_run : zCbh m_L_run hh_run 4 := ⟨zU4 108 (cChkW_ok (by decide +kernel)) g_codeWith, ini_L, pln100, pld104, by decide⟩
theorem st_L_run : Cond.static m_L_run.1 ∈ zT := zU4 107 (by decide +kernel) g_static
theorem lk_L_257 : Cond.methodLink "PartlisterLaw" 257 m_L_run.1 ∈ zT := zU4 106 (by decide +kernel) g_methodLink
set_option maxRecDepth 20000 in
theorem h_run {l : Launch} {D : va_G} {B : Nat} {O : State → Heap → Prop} (hV : zG l D B O) (hN : zNo O) (G : gH) (b q : Nat) (a1 : Int32) (a2 : Int32) {fs fq : List Value} (hb : G.2.2 b = some (.inr (3, fs))) {c : Nat} {a : Int32} {H1 : gH} (hc : c ≤ 1) (hF : f_X_run G b a1 a2 = oV xI1 c (.int a) H1) (h1 : H1.1 ≤ G.1 + 840) (h2 : H1.2.1 ≤ G.2.1 + 8) (h3 : G.2.1 ≤ H1.2.1) (hq : H1.2.2 q = some (.inr (7, fq))) (hl : fq.length = 2) : zMeh (zVm l D B O) m_L_run hh_run 8 9 846 [.ref b, .int a1, .int a2, .ref q] G.2 (wQ q c 0 (.long a.toInt64) H1) (fun _ _ => False) := by
  refine zMeh.of (by decide +kernel) (Nat.le_of_ble_eq_true rfl) [some (.ref b), some (.int a1), some (.int a2), some (.ref q), none] (fun ls h => zEn_ok (n := 5) h) ?_
  refine Zh.blk (pc' := 4) (L' := [some (.ref b), some (.int a1), some (.int a2), some (.ref q), none]) (st' := [.int a2, .int a1, .ref b, .ref q]) (sg := [(.aload_n 3, 0), (.aload_n 0, 0), (.iload_n 1, 0), (.iload_n 2, 0)]) (by decide +kernel) rfl ?_
  refine Zh.oV (E := xI1) (As := [.int a1, .int a2]) (b := b) (st := [.ref q]) (n := 2) (a := .int a) hV.1 (k_X_run hV G b a1 a2) hF h1 h2 h3 cb_X_run lk_L_105 in_X_run se_X_run hb (by decide +kernel) rfl rfl (Nat.le_of_ble_eq_true rfl) (Nat.le_refl _) (fun h0 => ?_) (fun h0 => ?_)
  · obtain rfl : c = 1 := by omega
    · exact ⟨14, ⟨[], [], ⟨0, 11, 14, 19⟩, _, rfl, fun z hz => absurd hz List.not_mem_nil, by decide, by decide, ck_L_19, ca_IOE, rfl⟩, fun G' q9 g1 g2 g3 => Zh.blk (pc' := 17) (L' := [some (.ref b), some (.int a1), some (.int a2), some (.ref q), some (.ref q9)]) (st' := [.int (nI 1)]) (sg := [(.astore 4, 0), (.iconst 1, nI 1)]) (by decide +kernel) rfl (Zh.iret rfl rfl (by decide +kernel) ⟨rfl, g2, fun z _ => by rw [g3], fq, by rw [g3]; exact hq, hl, fun h9 => absurd h9 (by decide)⟩)⟩
  · subst h0
    refine Zh.blk (pc' := 8) (L' := [some (.ref b), some (.int a1), some (.int a2), some (.ref q), none]) (st' := [.long a.toInt64, .ref q]) (sg := [(.i2l, 0)]) (by decide +kernel) rfl ?_
    refine Zh.putn (fs := fq) (ty := .long) (v := .long a.toInt64) fn_L_13 (by decide) (by decide +kernel) hq (by rw [hl]; decide) rfl rfl ?_
    refine Zh.goto (off := 7) (tgt := 18) (by decide +kernel) (by decide) ?_
    refine Zh.blk (pc' := 19) (L' := [some (.ref b), some (.int a1), some (.int a2), some (.ref q), none]) (st' := [.int (nI 0)]) (sg := [(.iconst 0, nI 0)]) (by decide +kernel) rfl ?_
    exact Zh.iret rfl rfl (by decide +kernel) ⟨rfl, Nat.le_refl _, fun z hz => zUp_ne _ _ hz, _, zUp_at _ _ _, by rw [List.length_set]; exact hl, fun _ => by rw [List.getElem?_set_self (by rw [hl]; decide)]⟩
def m_L_end : zM := (⟨"PartlisterLaw", "end", "(LPartlister;ILPartlisterLaw$Out;)I"⟩, method_29_code, 4, some .int)
def hh_end : zHh := [(0, 17, 20, 19)]
theorem cb_L_end : zCbh m_L_end hh_end 3 := ⟨zU4 115 (cChkW_ok (by decide +kernel)) g_codeWith, ini_L, pln100, pld103, by decide⟩
theorem st_L_end : Cond.static m_L_end.1 ∈ zT := zU4 114 (by decide +kernel) g_static
theorem lk_L_260 : Cond.methodLink "PartlisterLaw" 260 m_L_end.1 ∈ zT := zU4 113 (by decide +kernel) g_methodLink
set_option maxRecDepth 20000 in
theorem h_end {l : Launch} {D : va_G} {B : Nat} {O : State → Heap → Prop} (hV : zG l D B O) (hN : zNo O) (G : gH) (b q : Nat) (a1 : Int32) {fs fq : List Value} (hb : G.2.2 b = some (.inr (3, fs))) {c : Nat} {a : Int32} {H1 : gH} (hc : c ≤ 1) (hF : f_X_end G b a1 = oV xI1 c (.int a) H1) (h1 : H1.1 ≤ G.1 + 840) (h2 : H1.2.1 ≤ G.2.1 + 8) (h3 : G.2.1 ≤ H1.2.1) (hq : H1.2.2 q = some (.inr (7, fq))) (hl : fq.length = 2) : zMeh (zVm l D B O) m_L_end hh_end 8 9 846 [.ref b, .int a1, .ref q] G.2 (wQ q c 0 (.long (if a = 0 then lN 0 else lN 1)) H1) (fun _ _ => False) := by
  refine zMeh.of (by decide +kernel) (Nat.le_of_ble_eq_true rfl) [some (.ref b), some (.int a1), some (.ref q), none] (fun ls h => zEn_ok (n := 4) h) ?_
  refine Zh.blk (pc' := 3) (L' := [some (.ref b), some (.int a1), some (.ref q), none]) (st' := [.int a1, .ref b, .ref q]) (sg := [(.aload_n 2, 0), (.aload_n 0, 0), (.iload_n 1, 0)]) (by decide +kernel) rfl ?_
  refine Zh.oV (E := xI1) (As := [.int a1]) (b := b) (st := [.ref q]) (n := 1) (a := .int a) hV.1 (k_X_end hV G b a1) hF h1 h2 h3 cb_X_end lk_L_108 in_X_end se_X_end hb (by decide +kernel) rfl rfl (Nat.le_of_ble_eq_true rfl) (Nat.le_refl _) (fun h0 => ?_) (fun h0 => ?_)
  · obtain rfl : c = 1 := by omega
    · exact ⟨20, ⟨[], [], ⟨0, 17, 20, 19⟩, _, rfl, fun z hz => absurd hz List.not_mem_nil, by decide, by decide, ck_L_19, ca_IOE, rfl⟩, fun G' q9 g1 g2 g3 => Zh.blk (pc' := 22) (L' := [some (.ref b), some (.int a1), some (.ref q), some (.ref q9)]) (st' := [.int (nI 1)]) (sg := [(.astore_n 3, 0), (.iconst 1, nI 1)]) (by decide +kernel) rfl (Zh.iret rfl rfl (by decide +kernel) ⟨rfl, g2, fun z _ => by rw [g3], fq, by rw [g3]; exact hq, hl, fun h9 => absurd h9 (by decide)⟩)⟩
  · subst h0
    refine Zh.if_eq (off := 7) (tgt := 13) (by decide +kernel) (by decide) (fun e0 => ?_) (fun e0 => ?_)
    · refine Zh.blk (pc' := 14) (L' := [some (.ref b), some (.int a1), some (.ref q), none]) (st' := [.long (lN 0), .ref q]) (sg := [(.lconst 0, 0)]) (by decide +kernel) rfl ?_
      refine Zh.putn (fs := fq) (ty := .long) (v := .long (lN 0)) fn_L_13 (by decide) (by decide +kernel) hq (by rw [hl]; decide) rfl rfl ?_
      refine Zh.goto (off := 6) (tgt := 23) (by decide +kernel) (by decide) ?_
      refine Zh.blk (pc' := 24) (L' := [some (.ref b), some (.int a1), some (.ref q), none]) (st' := [.int (nI 0)]) (sg := [(.iconst 0, nI 0)]) (by decide +kernel) rfl ?_
      exact Zh.iret rfl rfl (by decide +kernel) ⟨rfl, Nat.le_refl _, fun z hz => zUp_ne _ _ hz, _, zUp_at _ _ _, by rw [List.length_set]; exact hl, fun _ => by rw [List.getElem?_set_self (by rw [hl]; decide), if_pos e0]⟩
    · refine Zh.blk (pc' := 10) (L' := [some (.ref b), some (.int a1), some (.ref q), none]) (st' := [.long (lN 1), .ref q]) (sg := [(.lconst 1, 0)]) (by decide +kernel) rfl ?_
      refine Zh.goto (off := 4) (tgt := 14) (by decide +kernel) (by decide) ?_
      refine Zh.putn (fs := fq) (ty := .long) (v := .long (lN 1)) fn_L_13 (by decide) (by decide +kernel) hq (by rw [hl]; decide) rfl rfl ?_
      refine Zh.goto (off := 6) (tgt := 23) (by decide +kernel) (by decide) ?_
      refine Zh.blk (pc' := 24) (L' := [some (.ref b), some (.int a1), some (.ref q), none]) (st' := [.int (nI 0)]) (sg := [(.iconst 0, nI 0)]) (by decide +kernel) rfl ?_
      exact Zh.iret rfl rfl (by decide +kernel) ⟨rfl, Nat.le_refl _, fun z hz => zUp_ne _ _ hz, _, zUp_at _ _ _, by rw [List.length_set]; exact hl, fun _ => by rw [List.getElem?_set_self (by rw [hl]; decide), if_neg e0]⟩
def m_L_size : zM := (⟨"PartlisterLaw", "size", "(LPartlister;ILPartlisterLaw$Out;)I"⟩, method_30_code, 4, some .int)
def hh_size : zHh := [(0, 10, 13, 19)]
theorem cb_L_size : zCbh m_L_size hh_size 3 := ⟨zU4 122 (cChkW_ok (by decide +kernel)) g_codeWith, ini_L, pln100, pld103, by decide⟩
theorem st_L_size : Cond.static m_L_size.1 ∈ zT := zU4 121 (by decide +kernel) g_static
theorem lk_L_263 : Cond.methodLink "PartlisterLaw" 263 m_L_size.1 ∈ zT := zU4 120 (by decide +kernel) g_methodLink
set_option maxRecDepth 20000 in
theorem h_size {l : Launch} {D : va_G} {B : Nat} {O : State → Heap → Prop} (hV : zG l D B O) (hN : zNo O) (G : gH) (b q : Nat) (a1 : Int32) {fs fq : List Value} (hb : G.2.2 b = some (.inr (3, fs))) {c : Nat} {a : Int32} {H1 : gH} (hc : c ≤ 1) (hF : f_X_size G b a1 = oV xI1 c (.int a) H1) (h1 : H1.1 ≤ G.1 + 840) (h2 : H1.2.1 ≤ G.2.1 + 8) (h3 : G.2.1 ≤ H1.2.1) (hq : H1.2.2 q = some (.inr (7, fq))) (hl : fq.length = 2) : zMeh (zVm l D B O) m_L_size hh_size 7 9 846 [.ref b, .int a1, .ref q] G.2 (wQ q c 0 (.long a.toInt64) H1) (fun _ _ => False) := by
  refine zMeh.of (by decide +kernel) (Nat.le_of_ble_eq_true rfl) [some (.ref b), some (.int a1), some (.ref q), none] (fun ls h => zEn_ok (n := 4) h) ?_
  refine Zh.blk (pc' := 3) (L' := [some (.ref b), some (.int a1), some (.ref q), none]) (st' := [.int a1, .ref b, .ref q]) (sg := [(.aload_n 2, 0), (.aload_n 0, 0), (.iload_n 1, 0)]) (by decide +kernel) rfl ?_
  refine Zh.oV (E := xI1) (As := [.int a1]) (b := b) (st := [.ref q]) (n := 1) (a := .int a) hV.1 (k_X_size hV G b a1) hF h1 h2 h3 cb_X_size lk_L_112 in_X_size se_X_size hb (by decide +kernel) rfl rfl (Nat.le_of_ble_eq_true rfl) (Nat.le_refl _) (fun h0 => ?_) (fun h0 => ?_)
  · obtain rfl : c = 1 := by omega
    · exact ⟨13, ⟨[], [], ⟨0, 10, 13, 19⟩, _, rfl, fun z hz => absurd hz List.not_mem_nil, by decide, by decide, ck_L_19, ca_IOE, rfl⟩, fun G' q9 g1 g2 g3 => Zh.blk (pc' := 15) (L' := [some (.ref b), some (.int a1), some (.ref q), some (.ref q9)]) (st' := [.int (nI 1)]) (sg := [(.astore_n 3, 0), (.iconst 1, nI 1)]) (by decide +kernel) rfl (Zh.iret rfl rfl (by decide +kernel) ⟨rfl, g2, fun z _ => by rw [g3], fq, by rw [g3]; exact hq, hl, fun h9 => absurd h9 (by decide)⟩)⟩
  · subst h0
    refine Zh.blk (pc' := 7) (L' := [some (.ref b), some (.int a1), some (.ref q), none]) (st' := [.long a.toInt64, .ref q]) (sg := [(.i2l, 0)]) (by decide +kernel) rfl ?_
    refine Zh.putn (fs := fq) (ty := .long) (v := .long a.toInt64) fn_L_13 (by decide) (by decide +kernel) hq (by rw [hl]; decide) rfl rfl ?_
    refine Zh.goto (off := 6) (tgt := 16) (by decide +kernel) (by decide) ?_
    refine Zh.blk (pc' := 17) (L' := [some (.ref b), some (.int a1), some (.ref q), none]) (st' := [.int (nI 0)]) (sg := [(.iconst 0, nI 0)]) (by decide +kernel) rfl ?_
    exact Zh.iret rfl rfl (by decide +kernel) ⟨rfl, Nat.le_refl _, fun z hz => zUp_ne _ _ hz, _, zUp_at _ _ _, by rw [List.length_set]; exact hl, fun _ => by rw [List.getElem?_set_self (by rw [hl]; decide)]⟩
def m_L_key : zM := (⟨"PartlisterLaw", "key", "(LPartlister;IILPartlisterLaw$Out;)I"⟩, method_31_code, 5, some .int)
def hh_key : zHh := [(0, 11, 14, 19)]
theorem cb_L_key : zCbh m_L_key hh_key 4 := ⟨zU4 130 (cChkW_ok (by decide +kernel)) g_codeWith, ini_L, pln100, pld101, by decide⟩
theorem st_L_key : Cond.static m_L_key.1 ∈ zT := zU4 129 (by decide +kernel) g_static
theorem lk_L_266 : Cond.methodLink "PartlisterLaw" 266 m_L_key.1 ∈ zT := zU4 128 (by decide +kernel) g_methodLink
set_option maxRecDepth 20000 in
theorem h_key {l : Launch} {D : va_G} {B : Nat} {O : State → Heap → Prop} (hV : zG l D B O) (hN : zNo O) (G : gH) (b q : Nat) (a1 : Int32) (a2 : Int32) {fs fq : List Value} (hb : G.2.2 b = some (.inr (3, fs))) {c : Nat} {a : Int32} {H1 : gH} (hc : c ≤ 1) (hF : f_X_key G b a1 a2 = oV xI1 c (.int a) H1) (h1 : H1.1 ≤ G.1 + 840) (h2 : H1.2.1 ≤ G.2.1 + 8) (h3 : G.2.1 ≤ H1.2.1) (hq : H1.2.2 q = some (.inr (7, fq))) (hl : fq.length = 2) : zMeh (zVm l D B O) m_L_key hh_key 8 9 846 [.ref b, .int a1, .int a2, .ref q] G.2 (wQ q c 0 (.long a.toInt64) H1) (fun _ _ => False) := by
  refine zMeh.of (by decide +kernel) (Nat.le_of_ble_eq_true rfl) [some (.ref b), some (.int a1), some (.int a2), some (.ref q), none] (fun ls h => zEn_ok (n := 5) h) ?_
  refine Zh.blk (pc' := 4) (L' := [some (.ref b), some (.int a1), some (.int a2), some (.ref q), none]) (st' := [.int a2, .int a1, .ref b, .ref q]) (sg := [(.aload_n 3, 0), (.aload_n 0, 0), (.iload_n 1, 0), (.iload_n 2, 0)]) (by decide +kernel) rfl ?_
  refine Zh.oV (E := xI1) (As := [.int a1, .int a2]) (b := b) (st := [.ref q]) (n := 2) (a := .int a) hV.1 (k_X_key hV G b a1 a2) hF h1 h2 h3 cb_X_key lk_L_115 in_X_key se_X_key hb (by decide +kernel) rfl rfl (Nat.le_of_ble_eq_true rfl) (Nat.le_refl _) (fun h0 => ?_) (fun h0 => ?_)
  · obtain rfl : c = 1 := by omega
    · exact ⟨14, ⟨[], [], ⟨0, 11, 14, 19⟩, _, rfl, fun z hz => absurd hz List.not_mem_nil, by decide, by decide, ck_L_19, ca_IOE, rfl⟩, fun G' q9 g1 g2 g3 => Zh.blk (pc' := 17) (L' := [some (.ref b), some (.int a1), some (.int a2), some (.ref q), some (.ref q9)]) (st' := [.int (nI 1)]) (sg := [(.astore 4, 0), (.iconst 1, nI 1)]) (by decide +kernel) rfl (Zh.iret rfl rfl (by decide +kernel) ⟨rfl, g2, fun z _ => by rw [g3], fq, by rw [g3]; exact hq, hl, fun h9 => absurd h9 (by decide)⟩)⟩
  · subst h0
    refine Zh.blk (pc' := 8) (L' := [some (.ref b), some (.int a1), some (.int a2), some (.ref q), none]) (st' := [.long a.toInt64, .ref q]) (sg := [(.i2l, 0)]) (by decide +kernel) rfl ?_
    refine Zh.putn (fs := fq) (ty := .long) (v := .long a.toInt64) fn_L_13 (by decide) (by decide +kernel) hq (by rw [hl]; decide) rfl rfl ?_
    refine Zh.goto (off := 7) (tgt := 18) (by decide +kernel) (by decide) ?_
    refine Zh.blk (pc' := 19) (L' := [some (.ref b), some (.int a1), some (.int a2), some (.ref q), none]) (st' := [.int (nI 0)]) (sg := [(.iconst 0, nI 0)]) (by decide +kernel) rfl ?_
    exact Zh.iret rfl rfl (by decide +kernel) ⟨rfl, Nat.le_refl _, fun z hz => zUp_ne _ _ hz, _, zUp_at _ _ _, by rw [List.length_set]; exact hl, fun _ => by rw [List.getElem?_set_self (by rw [hl]; decide)]⟩
def m_L_tag : zM := (⟨"PartlisterLaw", "tag", "(LPartlister;IILPartlisterLaw$Out;)I"⟩, method_32_code, 5, some .int)
def hh_tag : zHh := [(0, 11, 14, 19)]
theorem cb_L_tag : zCbh m_L_tag hh_tag 4 := ⟨zU4 137 (cChkW_ok (by decide +kernel)) g_codeWith, ini_L, pln100, pld101, by decide⟩
theorem st_L_tag : Cond.static m_L_tag.1 ∈ zT := zU4 136 (by decide +kernel) g_static
theorem lk_L_269 : Cond.methodLink "PartlisterLaw" 269 m_L_tag.1 ∈ zT := zU4 135 (by decide +kernel) g_methodLink
set_option maxRecDepth 20000 in
theorem h_tag {l : Launch} {D : va_G} {B : Nat} {O : State → Heap → Prop} (hV : zG l D B O) (hN : zNo O) (G : gH) (b q : Nat) (a1 : Int32) (a2 : Int32) {fs fq : List Value} (hb : G.2.2 b = some (.inr (3, fs))) {c : Nat} {a : Int32} {H1 : gH} (hc : c ≤ 1) (hF : f_X_tag G b a1 a2 = oV xI1 c (.int a) H1) (h1 : H1.1 ≤ G.1 + 840) (h2 : H1.2.1 ≤ G.2.1 + 8) (h3 : G.2.1 ≤ H1.2.1) (hq : H1.2.2 q = some (.inr (7, fq))) (hl : fq.length = 2) : zMeh (zVm l D B O) m_L_tag hh_tag 8 9 846 [.ref b, .int a1, .int a2, .ref q] G.2 (wQ q c 0 (.long a.toInt64) H1) (fun _ _ => False) := by
  refine zMeh.of (by decide +kernel) (Nat.le_of_ble_eq_true rfl) [some (.ref b), some (.int a1), some (.int a2), some (.ref q), none] (fun ls h => zEn_ok (n := 5) h) ?_
  refine Zh.blk (pc' := 4) (L' := [some (.ref b), some (.int a1), some (.int a2), some (.ref q), none]) (st' := [.int a2, .int a1, .ref b, .ref q]) (sg := [(.aload_n 3, 0), (.aload_n 0, 0), (.iload_n 1, 0), (.iload_n 2, 0)]) (by decide +kernel) rfl ?_
  refine Zh.oV (E := xI1) (As := [.int a1, .int a2]) (b := b) (st := [.ref q]) (n := 2) (a := .int a) hV.1 (k_X_tag hV G b a1 a2) hF h1 h2 h3 cb_X_tag lk_L_118 in_X_tag se_X_tag hb (by decide +kernel) rfl rfl (Nat.le_of_ble_eq_true rfl) (Nat.le_refl _) (fun h0 => ?_) (fun h0 => ?_)
  · obtain rfl : c = 1 := by omega
    · exact ⟨14, ⟨[], [], ⟨0, 11, 14, 19⟩, _, rfl, fun z hz => absurd hz List.not_mem_nil, by decide, by decide, ck_L_19, ca_IOE, rfl⟩, fun G' q9 g1 g2 g3 => Zh.blk (pc' := 17) (L' := [some (.ref b), some (.int a1), some (.int a2), some (.ref q), some (.ref q9)]) (st' := [.int (nI 1)]) (sg := [(.astore 4, 0), (.iconst 1, nI 1)]) (by decide +kernel) rfl (Zh.iret rfl rfl (by decide +kernel) ⟨rfl, g2, fun z _ => by rw [g3], fq, by rw [g3]; exact hq, hl, fun h9 => absurd h9 (by decide)⟩)⟩
  · subst h0
    refine Zh.blk (pc' := 8) (L' := [some (.ref b), some (.int a1), some (.int a2), some (.ref q), none]) (st' := [.long a.toInt64, .ref q]) (sg := [(.i2l, 0)]) (by decide +kernel) rfl ?_
    refine Zh.putn (fs := fq) (ty := .long) (v := .long a.toInt64) fn_L_13 (by decide) (by decide +kernel) hq (by rw [hl]; decide) rfl rfl ?_
    refine Zh.goto (off := 7) (tgt := 18) (by decide +kernel) (by decide) ?_
    refine Zh.blk (pc' := 19) (L' := [some (.ref b), some (.int a1), some (.int a2), some (.ref q), none]) (st' := [.int (nI 0)]) (sg := [(.iconst 0, nI 0)]) (by decide +kernel) rfl ?_
    exact Zh.iret rfl rfl (by decide +kernel) ⟨rfl, Nat.le_refl _, fun z hz => zUp_ne _ _ hz, _, zUp_at _ _ _, by rw [List.length_set]; exact hl, fun _ => by rw [List.getElem?_set_self (by rw [hl]; decide)]⟩
def m_L_first : zM := (⟨"PartlisterLaw", "first", "(LPartlister;IILPartlisterLaw$Out;)I"⟩, method_33_code, 5, some .int)
def hh_first : zHh := [(0, 11, 14, 19), (0, 11, 18, 21)]
theorem cb_L_first : zCbh m_L_first hh_first 4 := ⟨zU4 144 (cChkW_ok (by decide +kernel)) g_codeWith, ini_L, pln100, pld101, by decide⟩
theorem st_L_first : Cond.static m_L_first.1 ∈ zT := zU4 143 (by decide +kernel) g_static
theorem lk_L_272 : Cond.methodLink "PartlisterLaw" 272 m_L_first.1 ∈ zT := zU4 142 (by decide +kernel) g_methodLink
set_option maxRecDepth 20000 in
theorem h_first {l : Launch} {D : va_G} {B : Nat} {O : State → Heap → Prop} (hV : zG l D B O) (hN : zNo O) (G : gH) (b q : Nat) (a1 : Int32) (a2 : Int32) {fs fq : List Value} (hb : G.2.2 b = some (.inr (3, fs))) {c : Nat} {a : Int32} {H1 : gH} (hc : c ≤ 2) (hF : f_X_first G b a1 a2 = oV xIG c (.int a) H1) (h1 : H1.1 ≤ G.1 + 840) (h2 : H1.2.1 ≤ G.2.1 + 8) (h3 : G.2.1 ≤ H1.2.1) (hq : H1.2.2 q = some (.inr (7, fq))) (hl : fq.length = 2) : zMeh (zVm l D B O) m_L_first hh_first 8 9 846 [.ref b, .int a1, .int a2, .ref q] G.2 (wQ q c 0 (.long a.toInt64) H1) (fun _ _ => False) := by
  refine zMeh.of (by decide +kernel) (Nat.le_of_ble_eq_true rfl) [some (.ref b), some (.int a1), some (.int a2), some (.ref q), none] (fun ls h => zEn_ok (n := 5) h) ?_
  refine Zh.blk (pc' := 4) (L' := [some (.ref b), some (.int a1), some (.int a2), some (.ref q), none]) (st' := [.int a2, .int a1, .ref b, .ref q]) (sg := [(.aload_n 3, 0), (.aload_n 0, 0), (.iload_n 1, 0), (.iload_n 2, 0)]) (by decide +kernel) rfl ?_
  refine Zh.oV (E := xIG) (As := [.int a1, .int a2]) (b := b) (st := [.ref q]) (n := 2) (a := .int a) hV.1 (k_X_first hV G b a1 a2) hF h1 h2 h3 cb_X_first lk_L_121 in_X_first se_X_first hb (by decide +kernel) rfl rfl (Nat.le_of_ble_eq_true rfl) (Nat.le_refl _) (fun h0 => ?_) (fun h0 => ?_)
  · obtain rfl | rfl : c = 1 ∨ c = 2 := by omega
    · exact ⟨14, ⟨[], [⟨0, 11, 18, 21⟩], ⟨0, 11, 14, 19⟩, _, rfl, fun z hz => absurd hz List.not_mem_nil, by decide, by decide, ck_L_19, ca_IOE, rfl⟩, fun G' q9 g1 g2 g3 => Zh.blk (pc' := 17) (L' := [some (.ref b), some (.int a1), some (.int a2), some (.ref q), some (.ref q9)]) (st' := [.int (nI 1)]) (sg := [(.astore 4, 0), (.iconst 1, nI 1)]) (by decide +kernel) rfl (Zh.iret rfl rfl (by decide +kernel) ⟨rfl, g2, fun z _ => by rw [g3], fq, by rw [g3]; exact hq, hl, fun h9 => absurd h9 (by decide)⟩)⟩
    · exact ⟨18, ⟨[⟨0, 11, 14, 19⟩], [], ⟨0, 11, 18, 21⟩, _, rfl, List.forall_mem_cons.mpr ⟨⟨by decide, _, ck_L_19, fun U H h9 => (hN U H h9).1⟩, fun z hz => absurd hz List.not_mem_nil⟩, by decide, by decide, ck_L_21, ca_IAE, rfl⟩, fun G' q9 g1 g2 g3 => Zh.blk (pc' := 21) (L' := [some (.ref b), some (.int a1), some (.int a2), some (.ref q), some (.ref q9)]) (st' := [.int (nI 2)]) (sg := [(.astore 4, 0), (.iconst 2, nI 2)]) (by decide +kernel) rfl (Zh.iret rfl rfl (by decide +kernel) ⟨rfl, g2, fun z _ => by rw [g3], fq, by rw [g3]; exact hq, hl, fun h9 => absurd h9 (by decide)⟩)⟩
  · subst h0
    refine Zh.blk (pc' := 8) (L' := [some (.ref b), some (.int a1), some (.int a2), some (.ref q), none]) (st' := [.long a.toInt64, .ref q]) (sg := [(.i2l, 0)]) (by decide +kernel) rfl ?_
    refine Zh.putn (fs := fq) (ty := .long) (v := .long a.toInt64) fn_L_13 (by decide) (by decide +kernel) hq (by rw [hl]; decide) rfl rfl ?_
    refine Zh.goto (off := 11) (tgt := 22) (by decide +kernel) (by decide) ?_
    refine Zh.blk (pc' := 23) (L' := [some (.ref b), some (.int a1), some (.int a2), some (.ref q), none]) (st' := [.int (nI 0)]) (sg := [(.iconst 0, nI 0)]) (by decide +kernel) rfl ?_
    exact Zh.iret rfl rfl (by decide +kernel) ⟨rfl, Nat.le_refl _, fun z hz => zUp_ne _ _ hz, _, zUp_at _ _ _, by rw [List.length_set]; exact hl, fun _ => by rw [List.getElem?_set_self (by rw [hl]; decide)]⟩
def m_L_last : zM := (⟨"PartlisterLaw", "last", "(LPartlister;IILPartlisterLaw$Out;)I"⟩, method_34_code, 5, some .int)
def hh_last : zHh := [(0, 11, 14, 19), (0, 11, 18, 21)]
theorem cb_L_last : zCbh m_L_last hh_last 4 := ⟨zU4 151 (cChkW_ok (by decide +kernel)) g_codeWith, ini_L, pln100, pld101, by decide⟩
theorem st_L_last : Cond.static m_L_last.1 ∈ zT := zU4 150 (by decide +kernel) g_static
theorem lk_L_275 : Cond.methodLink "PartlisterLaw" 275 m_L_last.1 ∈ zT := zU4 149 (by decide +kernel) g_methodLink
set_option maxRecDepth 20000 in
theorem h_last {l : Launch} {D : va_G} {B : Nat} {O : State → Heap → Prop} (hV : zG l D B O) (hN : zNo O) (G : gH) (b q : Nat) (a1 : Int32) (a2 : Int32) {fs fq : List Value} (hb : G.2.2 b = some (.inr (3, fs))) {c : Nat} {a : Int32} {H1 : gH} (hc : c ≤ 2) (hF : f_X_last G b a1 a2 = oV xIG c (.int a) H1) (h1 : H1.1 ≤ G.1 + 840) (h2 : H1.2.1 ≤ G.2.1 + 8) (h3 : G.2.1 ≤ H1.2.1) (hq : H1.2.2 q = some (.inr (7, fq))) (hl : fq.length = 2) : zMeh (zVm l D B O) m_L_last hh_last 8 9 846 [.ref b, .int a1, .int a2, .ref q] G.2 (wQ q c 0 (.long a.toInt64) H1) (fun _ _ => False) := by
  refine zMeh.of (by decide +kernel) (Nat.le_of_ble_eq_true rfl) [some (.ref b), some (.int a1), some (.int a2), some (.ref q), none] (fun ls h => zEn_ok (n := 5) h) ?_
  refine Zh.blk (pc' := 4) (L' := [some (.ref b), some (.int a1), some (.int a2), some (.ref q), none]) (st' := [.int a2, .int a1, .ref b, .ref q]) (sg := [(.aload_n 3, 0), (.aload_n 0, 0), (.iload_n 1, 0), (.iload_n 2, 0)]) (by decide +kernel) rfl ?_
  refine Zh.oV (E := xIG) (As := [.int a1, .int a2]) (b := b) (st := [.ref q]) (n := 2) (a := .int a) hV.1 (k_X_last hV G b a1 a2) hF h1 h2 h3 cb_X_last lk_L_124 in_X_last se_X_last hb (by decide +kernel) rfl rfl (Nat.le_of_ble_eq_true rfl) (Nat.le_refl _) (fun h0 => ?_) (fun h0 => ?_)
  · obtain rfl | rfl : c = 1 ∨ c = 2 := by omega
    · exact ⟨14, ⟨[], [⟨0, 11, 18, 21⟩], ⟨0, 11, 14, 19⟩, _, rfl, fun z hz => absurd hz List.not_mem_nil, by decide, by decide, ck_L_19, ca_IOE, rfl⟩, fun G' q9 g1 g2 g3 => Zh.blk (pc' := 17) (L' := [some (.ref b), some (.int a1), some (.int a2), some (.ref q), some (.ref q9)]) (st' := [.int (nI 1)]) (sg := [(.astore 4, 0), (.iconst 1, nI 1)]) (by decide +kernel) rfl (Zh.iret rfl rfl (by decide +kernel) ⟨rfl, g2, fun z _ => by rw [g3], fq, by rw [g3]; exact hq, hl, fun h9 => absurd h9 (by decide)⟩)⟩
    · exact ⟨18, ⟨[⟨0, 11, 14, 19⟩], [], ⟨0, 11, 18, 21⟩, _, rfl, List.forall_mem_cons.mpr ⟨⟨by decide, _, ck_L_19, fun U H h9 => (hN U H h9).1⟩, fun z hz => absurd hz List.not_mem_nil⟩, by decide, by decide, ck_L_21, ca_IAE, rfl⟩, fun G' q9 g1 g2 g3 => Zh.blk (pc' := 21) (L' := [some (.ref b), some (.int a1), some (.int a2), some (.ref q), some (.ref q9)]) (st' := [.int (nI 2)]) (sg := [(.astore 4, 0), (.iconst 2, nI 2)]) (by decide +kernel) rfl (Zh.iret rfl rfl (by decide +kernel) ⟨rfl, g2, fun z _ => by rw [g3], fq, by rw [g3]; exact hq, hl, fun h9 => absurd h9 (by decide)⟩)⟩
  · subst h0
    refine Zh.blk (pc' := 8) (L' := [some (.ref b), some (.int a1), some (.int a2), some (.ref q), none]) (st' := [.long a.toInt64, .ref q]) (sg := [(.i2l, 0)]) (by decide +kernel) rfl ?_
    refine Zh.putn (fs := fq) (ty := .long) (v := .long a.toInt64) fn_L_13 (by decide) (by decide +kernel) hq (by rw [hl]; decide) rfl rfl ?_
    refine Zh.goto (off := 11) (tgt := 22) (by decide +kernel) (by decide) ?_
    refine Zh.blk (pc' := 23) (L' := [some (.ref b), some (.int a1), some (.int a2), some (.ref q), none]) (st' := [.int (nI 0)]) (sg := [(.iconst 0, nI 0)]) (by decide +kernel) rfl ?_
    exact Zh.iret rfl rfl (by decide +kernel) ⟨rfl, Nat.le_refl _, fun z hz => zUp_ne _ _ hz, _, zUp_at _ _ _, by rw [List.length_set]; exact hl, fun _ => by rw [List.getElem?_set_self (by rw [hl]; decide)]⟩
def m_L_many : zM := (⟨"PartlisterLaw", "many", "(LPartlister;IILPartlisterLaw$Out;)I"⟩, method_35_code, 5, some .int)
def hh_many : zHh := [(0, 11, 14, 19), (0, 11, 18, 21)]
theorem cb_L_many : zCbh m_L_many hh_many 4 := ⟨zU4 158 (cChkW_ok (by decide +kernel)) g_codeWith, ini_L, pln100, pld101, by decide⟩
theorem st_L_many : Cond.static m_L_many.1 ∈ zT := zU4 157 (by decide +kernel) g_static
theorem lk_L_278 : Cond.methodLink "PartlisterLaw" 278 m_L_many.1 ∈ zT := zU4 156 (by decide +kernel) g_methodLink
set_option maxRecDepth 20000 in
theorem h_many {l : Launch} {D : va_G} {B : Nat} {O : State → Heap → Prop} (hV : zG l D B O) (hN : zNo O) (G : gH) (b q : Nat) (a1 : Int32) (a2 : Int32) {fs fq : List Value} (hb : G.2.2 b = some (.inr (3, fs))) {c : Nat} {a : Int32} {H1 : gH} (hc : c ≤ 2) (hF : f_X_many G b a1 a2 = oV xIG c (.int a) H1) (h1 : H1.1 ≤ G.1 + 840) (h2 : H1.2.1 ≤ G.2.1 + 8) (h3 : G.2.1 ≤ H1.2.1) (hq : H1.2.2 q = some (.inr (7, fq))) (hl : fq.length = 2) : zMeh (zVm l D B O) m_L_many hh_many 8 9 846 [.ref b, .int a1, .int a2, .ref q] G.2 (wQ q c 0 (.long a.toInt64) H1) (fun _ _ => False) := by
  refine zMeh.of (by decide +kernel) (Nat.le_of_ble_eq_true rfl) [some (.ref b), some (.int a1), some (.int a2), some (.ref q), none] (fun ls h => zEn_ok (n := 5) h) ?_
  refine Zh.blk (pc' := 4) (L' := [some (.ref b), some (.int a1), some (.int a2), some (.ref q), none]) (st' := [.int a2, .int a1, .ref b, .ref q]) (sg := [(.aload_n 3, 0), (.aload_n 0, 0), (.iload_n 1, 0), (.iload_n 2, 0)]) (by decide +kernel) rfl ?_
  refine Zh.oV (E := xIG) (As := [.int a1, .int a2]) (b := b) (st := [.ref q]) (n := 2) (a := .int a) hV.1 (k_X_many hV G b a1 a2) hF h1 h2 h3 cb_X_many lk_L_127 in_X_many se_X_many hb (by decide +kernel) rfl rfl (Nat.le_of_ble_eq_true rfl) (Nat.le_refl _) (fun h0 => ?_) (fun h0 => ?_)
  · obtain rfl | rfl : c = 1 ∨ c = 2 := by omega
    · exact ⟨14, ⟨[], [⟨0, 11, 18, 21⟩], ⟨0, 11, 14, 19⟩, _, rfl, fun z hz => absurd hz List.not_mem_nil, by decide, by decide, ck_L_19, ca_IOE, rfl⟩, fun G' q9 g1 g2 g3 => Zh.blk (pc' := 17) (L' := [some (.ref b), some (.int a1), some (.int a2), some (.ref q), some (.ref q9)]) (st' := [.int (nI 1)]) (sg := [(.astore 4, 0), (.iconst 1, nI 1)]) (by decide +kernel) rfl (Zh.iret rfl rfl (by decide +kernel) ⟨rfl, g2, fun z _ => by rw [g3], fq, by rw [g3]; exact hq, hl, fun h9 => absurd h9 (by decide)⟩)⟩
    · exact ⟨18, ⟨[⟨0, 11, 14, 19⟩], [], ⟨0, 11, 18, 21⟩, _, rfl, List.forall_mem_cons.mpr ⟨⟨by decide, _, ck_L_19, fun U H h9 => (hN U H h9).1⟩, fun z hz => absurd hz List.not_mem_nil⟩, by decide, by decide, ck_L_21, ca_IAE, rfl⟩, fun G' q9 g1 g2 g3 => Zh.blk (pc' := 21) (L' := [some (.ref b), some (.int a1), some (.int a2), some (.ref q), some (.ref q9)]) (st' := [.int (nI 2)]) (sg := [(.astore 4, 0), (.iconst 2, nI 2)]) (by decide +kernel) rfl (Zh.iret rfl rfl (by decide +kernel) ⟨rfl, g2, fun z _ => by rw [g3], fq, by rw [g3]; exact hq, hl, fun h9 => absurd h9 (by decide)⟩)⟩
  · subst h0
    refine Zh.blk (pc' := 8) (L' := [some (.ref b), some (.int a1), some (.int a2), some (.ref q), none]) (st' := [.long a.toInt64, .ref q]) (sg := [(.i2l, 0)]) (by decide +kernel) rfl ?_
    refine Zh.putn (fs := fq) (ty := .long) (v := .long a.toInt64) fn_L_13 (by decide) (by decide +kernel) hq (by rw [hl]; decide) rfl rfl ?_
    refine Zh.goto (off := 11) (tgt := 22) (by decide +kernel) (by decide) ?_
    refine Zh.blk (pc' := 23) (L' := [some (.ref b), some (.int a1), some (.int a2), some (.ref q), none]) (st' := [.int (nI 0)]) (sg := [(.iconst 0, nI 0)]) (by decide +kernel) rfl ?_
    exact Zh.iret rfl rfl (by decide +kernel) ⟨rfl, Nat.le_refl _, fun z hz => zUp_ne _ _ hz, _, zUp_at _ _ _, by rw [List.length_set]; exact hl, fun _ => by rw [List.getElem?_set_self (by rw [hl]; decide)]⟩
def m_L_hasAll : zM := (⟨"PartlisterLaw", "hasAll", "(LPartlister;IILPartlisterLaw$Out;)I"⟩, method_36_code, 5, some .int)
def hh_hasAll : zHh := [(0, 18, 21, 19)]
theorem cb_L_hasAll : zCbh m_L_hasAll hh_hasAll 4 := ⟨zU4 165 (cChkW_ok (by decide +kernel)) g_codeWith, ini_L, pln100, pld101, by decide⟩
theorem st_L_hasAll : Cond.static m_L_hasAll.1 ∈ zT := zU4 164 (by decide +kernel) g_static
theorem lk_L_281 : Cond.methodLink "PartlisterLaw" 281 m_L_hasAll.1 ∈ zT := zU4 163 (by decide +kernel) g_methodLink
set_option maxRecDepth 20000 in
theorem h_hasAll {l : Launch} {D : va_G} {B : Nat} {O : State → Heap → Prop} (hV : zG l D B O) (hN : zNo O) (G : gH) (b q : Nat) (a1 : Int32) (a2 : Int32) {fs fq : List Value} (hb : G.2.2 b = some (.inr (3, fs))) {c : Nat} {a : Int32} {H1 : gH} (hc : c ≤ 1) (hF : f_X_hasAll G b a1 a2 = oV xI1 c (.int a) H1) (h1 : H1.1 ≤ G.1 + 840) (h2 : H1.2.1 ≤ G.2.1 + 8) (h3 : G.2.1 ≤ H1.2.1) (hq : H1.2.2 q = some (.inr (7, fq))) (hl : fq.length = 2) : zMeh (zVm l D B O) m_L_hasAll hh_hasAll 8 9 846 [.ref b, .int a1, .int a2, .ref q] G.2 (wQ q c 0 (.long (if a = 0 then lN 0 else lN 1)) H1) (fun _ _ => False) := by
  refine zMeh.of (by decide +kernel) (Nat.le_of_ble_eq_true rfl) [some (.ref b), some (.int a1), some (.int a2), some (.ref q), none] (fun ls h => zEn_ok (n := 5) h) ?_
  refine Zh.blk (pc' := 4) (L' := [some (.ref b), some (.int a1), some (.int a2), some (.ref q), none]) (st' := [.int a2, .int a1, .ref b, .ref q]) (sg := [(.aload_n 3, 0), (.aload_n 0, 0), (.iload_n 1, 0), (.iload_n 2, 0)]) (by decide +kernel) rfl ?_
  refine Zh.oV (E := xI1) (As := [.int a1, .int a2]) (b := b) (st := [.ref q]) (n := 2) (a := .int a) hV.1 (k_X_hasAll hV G b a1 a2) hF h1 h2 h3 cb_X_hasAll lk_L_130 in_X_hasAll se_X_hasAll hb (by decide +kernel) rfl rfl (Nat.le_of_ble_eq_true rfl) (Nat.le_refl _) (fun h0 => ?_) (fun h0 => ?_)
  · obtain rfl : c = 1 := by omega
    · exact ⟨21, ⟨[], [], ⟨0, 18, 21, 19⟩, _, rfl, fun z hz => absurd hz List.not_mem_nil, by decide, by decide, ck_L_19, ca_IOE, rfl⟩, fun G' q9 g1 g2 g3 => Zh.blk (pc' := 24) (L' := [some (.ref b), some (.int a1), some (.int a2), some (.ref q), some (.ref q9)]) (st' := [.int (nI 1)]) (sg := [(.astore 4, 0), (.iconst 1, nI 1)]) (by decide +kernel) rfl (Zh.iret rfl rfl (by decide +kernel) ⟨rfl, g2, fun z _ => by rw [g3], fq, by rw [g3]; exact hq, hl, fun h9 => absurd h9 (by decide)⟩)⟩
  · subst h0
    refine Zh.if_eq (off := 7) (tgt := 14) (by decide +kernel) (by decide) (fun e0 => ?_) (fun e0 => ?_)
    · refine Zh.blk (pc' := 15) (L' := [some (.ref b), some (.int a1), some (.int a2), some (.ref q), none]) (st' := [.long (lN 0), .ref q]) (sg := [(.lconst 0, 0)]) (by decide +kernel) rfl ?_
      refine Zh.putn (fs := fq) (ty := .long) (v := .long (lN 0)) fn_L_13 (by decide) (by decide +kernel) hq (by rw [hl]; decide) rfl rfl ?_
      refine Zh.goto (off := 7) (tgt := 25) (by decide +kernel) (by decide) ?_
      refine Zh.blk (pc' := 26) (L' := [some (.ref b), some (.int a1), some (.int a2), some (.ref q), none]) (st' := [.int (nI 0)]) (sg := [(.iconst 0, nI 0)]) (by decide +kernel) rfl ?_
      exact Zh.iret rfl rfl (by decide +kernel) ⟨rfl, Nat.le_refl _, fun z hz => zUp_ne _ _ hz, _, zUp_at _ _ _, by rw [List.length_set]; exact hl, fun _ => by rw [List.getElem?_set_self (by rw [hl]; decide), if_pos e0]⟩
    · refine Zh.blk (pc' := 11) (L' := [some (.ref b), some (.int a1), some (.int a2), some (.ref q), none]) (st' := [.long (lN 1), .ref q]) (sg := [(.lconst 1, 0)]) (by decide +kernel) rfl ?_
      refine Zh.goto (off := 4) (tgt := 15) (by decide +kernel) (by decide) ?_
      refine Zh.putn (fs := fq) (ty := .long) (v := .long (lN 1)) fn_L_13 (by decide) (by decide +kernel) hq (by rw [hl]; decide) rfl rfl ?_
      refine Zh.goto (off := 7) (tgt := 25) (by decide +kernel) (by decide) ?_
      refine Zh.blk (pc' := 26) (L' := [some (.ref b), some (.int a1), some (.int a2), some (.ref q), none]) (st' := [.int (nI 0)]) (sg := [(.iconst 0, nI 0)]) (by decide +kernel) rfl ?_
      exact Zh.iret rfl rfl (by decide +kernel) ⟨rfl, Nat.le_refl _, fun z hz => zUp_ne _ _ hz, _, zUp_at _ _ _, by rw [List.length_set]; exact hl, fun _ => by rw [List.getElem?_set_self (by rw [hl]; decide), if_neg e0]⟩
def m_L_areApart : zM := (⟨"PartlisterLaw", "areApart", "(LPartlister;IILPartlisterLaw$Out;)I"⟩, method_37_code, 5, some .int)
def hh_areApart : zHh := [(0, 18, 21, 19)]
theorem cb_L_areApart : zCbh m_L_areApart hh_areApart 4 := ⟨zU4 172 (cChkW_ok (by decide +kernel)) g_codeWith, ini_L, pln100, pld101, by decide⟩
theorem st_L_areApart : Cond.static m_L_areApart.1 ∈ zT := zU4 171 (by decide +kernel) g_static
theorem lk_L_284 : Cond.methodLink "PartlisterLaw" 284 m_L_areApart.1 ∈ zT := zU4 170 (by decide +kernel) g_methodLink
set_option maxRecDepth 20000 in
theorem h_areApart {l : Launch} {D : va_G} {B : Nat} {O : State → Heap → Prop} (hV : zG l D B O) (hN : zNo O) (G : gH) (b q : Nat) (a1 : Int32) (a2 : Int32) {fs fq : List Value} (hb : G.2.2 b = some (.inr (3, fs))) {c : Nat} {a : Int32} {H1 : gH} (hc : c ≤ 1) (hF : f_X_areApart G b a1 a2 = oV xI1 c (.int a) H1) (h1 : H1.1 ≤ G.1 + 840) (h2 : H1.2.1 ≤ G.2.1 + 8) (h3 : G.2.1 ≤ H1.2.1) (hq : H1.2.2 q = some (.inr (7, fq))) (hl : fq.length = 2) : zMeh (zVm l D B O) m_L_areApart hh_areApart 8 9 846 [.ref b, .int a1, .int a2, .ref q] G.2 (wQ q c 0 (.long (if a = 0 then lN 0 else lN 1)) H1) (fun _ _ => False) := by
  refine zMeh.of (by decide +kernel) (Nat.le_of_ble_eq_true rfl) [some (.ref b), some (.int a1), some (.int a2), some (.ref q), none] (fun ls h => zEn_ok (n := 5) h) ?_
  refine Zh.blk (pc' := 4) (L' := [some (.ref b), some (.int a1), some (.int a2), some (.ref q), none]) (st' := [.int a2, .int a1, .ref b, .ref q]) (sg := [(.aload_n 3, 0), (.aload_n 0, 0), (.iload_n 1, 0), (.iload_n 2, 0)]) (by decide +kernel) rfl ?_
  refine Zh.oV (E := xI1) (As := [.int a1, .int a2]) (b := b) (st := [.ref q]) (n := 2) (a := .int a) hV.1 (k_X_areApart hV G b a1 a2) hF h1 h2 h3 cb_X_areApart lk_L_133 in_X_areApart se_X_areApart hb (by decide +kernel) rfl rfl (Nat.le_of_ble_eq_true rfl) (Nat.le_refl _) (fun h0 => ?_) (fun h0 => ?_)
  · obtain rfl : c = 1 := by omega
    · exact ⟨21, ⟨[], [], ⟨0, 18, 21, 19⟩, _, rfl, fun z hz => absurd hz List.not_mem_nil, by decide, by decide, ck_L_19, ca_IOE, rfl⟩, fun G' q9 g1 g2 g3 => Zh.blk (pc' := 24) (L' := [some (.ref b), some (.int a1), some (.int a2), some (.ref q), some (.ref q9)]) (st' := [.int (nI 1)]) (sg := [(.astore 4, 0), (.iconst 1, nI 1)]) (by decide +kernel) rfl (Zh.iret rfl rfl (by decide +kernel) ⟨rfl, g2, fun z _ => by rw [g3], fq, by rw [g3]; exact hq, hl, fun h9 => absurd h9 (by decide)⟩)⟩
  · subst h0
    refine Zh.if_eq (off := 7) (tgt := 14) (by decide +kernel) (by decide) (fun e0 => ?_) (fun e0 => ?_)
    · refine Zh.blk (pc' := 15) (L' := [some (.ref b), some (.int a1), some (.int a2), some (.ref q), none]) (st' := [.long (lN 0), .ref q]) (sg := [(.lconst 0, 0)]) (by decide +kernel) rfl ?_
      refine Zh.putn (fs := fq) (ty := .long) (v := .long (lN 0)) fn_L_13 (by decide) (by decide +kernel) hq (by rw [hl]; decide) rfl rfl ?_
      refine Zh.goto (off := 7) (tgt := 25) (by decide +kernel) (by decide) ?_
      refine Zh.blk (pc' := 26) (L' := [some (.ref b), some (.int a1), some (.int a2), some (.ref q), none]) (st' := [.int (nI 0)]) (sg := [(.iconst 0, nI 0)]) (by decide +kernel) rfl ?_
      exact Zh.iret rfl rfl (by decide +kernel) ⟨rfl, Nat.le_refl _, fun z hz => zUp_ne _ _ hz, _, zUp_at _ _ _, by rw [List.length_set]; exact hl, fun _ => by rw [List.getElem?_set_self (by rw [hl]; decide), if_pos e0]⟩
    · refine Zh.blk (pc' := 11) (L' := [some (.ref b), some (.int a1), some (.int a2), some (.ref q), none]) (st' := [.long (lN 1), .ref q]) (sg := [(.lconst 1, 0)]) (by decide +kernel) rfl ?_
      refine Zh.goto (off := 4) (tgt := 15) (by decide +kernel) (by decide) ?_
      refine Zh.putn (fs := fq) (ty := .long) (v := .long (lN 1)) fn_L_13 (by decide) (by decide +kernel) hq (by rw [hl]; decide) rfl rfl ?_
      refine Zh.goto (off := 7) (tgt := 25) (by decide +kernel) (by decide) ?_
      refine Zh.blk (pc' := 26) (L' := [some (.ref b), some (.int a1), some (.int a2), some (.ref q), none]) (st' := [.int (nI 0)]) (sg := [(.iconst 0, nI 0)]) (by decide +kernel) rfl ?_
      exact Zh.iret rfl rfl (by decide +kernel) ⟨rfl, Nat.le_refl _, fun z hz => zUp_ne _ _ hz, _, zUp_at _ _ _, by rw [List.length_set]; exact hl, fun _ => by rw [List.getElem?_set_self (by rw [hl]; decide), if_neg e0]⟩
def m_L_isSame : zM := (⟨"PartlisterLaw", "isSame", "(LPartlister;IILPartlisterLaw$Out;)I"⟩, method_38_code, 5, some .int)
def hh_isSame : zHh := [(0, 18, 21, 19)]
theorem cb_L_isSame : zCbh m_L_isSame hh_isSame 4 := ⟨zU4 179 (cChkW_ok (by decide +kernel)) g_codeWith, ini_L, pln100, pld101, by decide⟩
theorem st_L_isSame : Cond.static m_L_isSame.1 ∈ zT := zU4 178 (by decide +kernel) g_static
theorem lk_L_287 : Cond.methodLink "PartlisterLaw" 287 m_L_isSame.1 ∈ zT := zU4 177 (by decide +kernel) g_methodLink
set_option maxRecDepth 20000 in
theorem h_isSame {l : Launch} {D : va_G} {B : Nat} {O : State → Heap → Prop} (hV : zG l D B O) (hN : zNo O) (G : gH) (b q : Nat) (a1 : Int32) (a2 : Int32) {fs fq : List Value} (hb : G.2.2 b = some (.inr (3, fs))) {c : Nat} {a : Int32} {H1 : gH} (hc : c ≤ 1) (hF : f_X_isSame G b a1 a2 = oV xI1 c (.int a) H1) (h1 : H1.1 ≤ G.1 + 840) (h2 : H1.2.1 ≤ G.2.1 + 8) (h3 : G.2.1 ≤ H1.2.1) (hq : H1.2.2 q = some (.inr (7, fq))) (hl : fq.length = 2) : zMeh (zVm l D B O) m_L_isSame hh_isSame 8 9 846 [.ref b, .int a1, .int a2, .ref q] G.2 (wQ q c 0 (.long (if a = 0 then lN 0 else lN 1)) H1) (fun _ _ => False) := by
  refine zMeh.of (by decide +kernel) (Nat.le_of_ble_eq_true rfl) [some (.ref b), some (.int a1), some (.int a2), some (.ref q), none] (fun ls h => zEn_ok (n := 5) h) ?_
  refine Zh.blk (pc' := 4) (L' := [some (.ref b), some (.int a1), some (.int a2), some (.ref q), none]) (st' := [.int a2, .int a1, .ref b, .ref q]) (sg := [(.aload_n 3, 0), (.aload_n 0, 0), (.iload_n 1, 0), (.iload_n 2, 0)]) (by decide +kernel) rfl ?_
  refine Zh.oV (E := xI1) (As := [.int a1, .int a2]) (b := b) (st := [.ref q]) (n := 2) (a := .int a) hV.1 (k_X_isSame hV G b a1 a2) hF h1 h2 h3 cb_X_isSame lk_L_136 in_X_isSame se_X_isSame hb (by decide +kernel) rfl rfl (Nat.le_of_ble_eq_true rfl) (Nat.le_refl _) (fun h0 => ?_) (fun h0 => ?_)
  · obtain rfl : c = 1 := by omega
    · exact ⟨21, ⟨[], [], ⟨0, 18, 21, 19⟩, _, rfl, fun z hz => absurd hz List.not_mem_nil, by decide, by decide, ck_L_19, ca_IOE, rfl⟩, fun G' q9 g1 g2 g3 => Zh.blk (pc' := 24) (L' := [some (.ref b), some (.int a1), some (.int a2), some (.ref q), some (.ref q9)]) (st' := [.int (nI 1)]) (sg := [(.astore 4, 0), (.iconst 1, nI 1)]) (by decide +kernel) rfl (Zh.iret rfl rfl (by decide +kernel) ⟨rfl, g2, fun z _ => by rw [g3], fq, by rw [g3]; exact hq, hl, fun h9 => absurd h9 (by decide)⟩)⟩
  · subst h0
    refine Zh.if_eq (off := 7) (tgt := 14) (by decide +kernel) (by decide) (fun e0 => ?_) (fun e0 => ?_)
    · refine Zh.blk (pc' := 15) (L' := [some (.ref b), some (.int a1), some (.int a2), some (.ref q), none]) (st' := [.long (lN 0), .ref q]) (sg := [(.lconst 0, 0)]) (by decide +kernel) rfl ?_
      refine Zh.putn (fs := fq) (ty := .long) (v := .long (lN 0)) fn_L_13 (by decide) (by decide +kernel) hq (by rw [hl]; decide) rfl rfl ?_
      refine Zh.goto (off := 7) (tgt := 25) (by decide +kernel) (by decide) ?_
      refine Zh.blk (pc' := 26) (L' := [some (.ref b), some (.int a1), some (.int a2), some (.ref q), none]) (st' := [.int (nI 0)]) (sg := [(.iconst 0, nI 0)]) (by decide +kernel) rfl ?_
      exact Zh.iret rfl rfl (by decide +kernel) ⟨rfl, Nat.le_refl _, fun z hz => zUp_ne _ _ hz, _, zUp_at _ _ _, by rw [List.length_set]; exact hl, fun _ => by rw [List.getElem?_set_self (by rw [hl]; decide), if_pos e0]⟩
    · refine Zh.blk (pc' := 11) (L' := [some (.ref b), some (.int a1), some (.int a2), some (.ref q), none]) (st' := [.long (lN 1), .ref q]) (sg := [(.lconst 1, 0)]) (by decide +kernel) rfl ?_
      refine Zh.goto (off := 4) (tgt := 15) (by decide +kernel) (by decide) ?_
      refine Zh.putn (fs := fq) (ty := .long) (v := .long (lN 1)) fn_L_13 (by decide) (by decide +kernel) hq (by rw [hl]; decide) rfl rfl ?_
      refine Zh.goto (off := 7) (tgt := 25) (by decide +kernel) (by decide) ?_
      refine Zh.blk (pc' := 26) (L' := [some (.ref b), some (.int a1), some (.int a2), some (.ref q), none]) (st' := [.int (nI 0)]) (sg := [(.iconst 0, nI 0)]) (by decide +kernel) rfl ?_
      exact Zh.iret rfl rfl (by decide +kernel) ⟨rfl, Nat.le_refl _, fun z hz => zUp_ne _ _ hz, _, zUp_at _ _ _, by rw [List.length_set]; exact hl, fun _ => by rw [List.getElem?_set_self (by rw [hl]; decide), if_neg e0]⟩
def m_L_find : zM := (⟨"PartlisterLaw", "find", "(LPartlister;IILPartlisterLaw$Out;)I"⟩, method_39_code, 5, some .int)
def hh_find : zHh := [(0, 11, 14, 19)]
theorem cb_L_find : zCbh m_L_find hh_find 4 := ⟨zU4 186 (cChkW_ok (by decide +kernel)) g_codeWith, ini_L, pln100, pld101, by decide⟩
theorem st_L_find : Cond.static m_L_find.1 ∈ zT := zU4 185 (by decide +kernel) g_static
theorem lk_L_290 : Cond.methodLink "PartlisterLaw" 290 m_L_find.1 ∈ zT := zU4 184 (by decide +kernel) g_methodLink
set_option maxRecDepth 20000 in
theorem h_find {l : Launch} {D : va_G} {B : Nat} {O : State → Heap → Prop} (hV : zG l D B O) (hN : zNo O) (G : gH) (b q : Nat) (a1 : Int32) (a2 : Int32) {fs fq : List Value} (hb : G.2.2 b = some (.inr (3, fs))) {c : Nat} {a : Int32} {H1 : gH} (hc : c ≤ 1) (hF : f_X_find G b a1 a2 = oV xI1 c (.int a) H1) (h1 : H1.1 ≤ G.1 + 840) (h2 : H1.2.1 ≤ G.2.1 + 8) (h3 : G.2.1 ≤ H1.2.1) (hq : H1.2.2 q = some (.inr (7, fq))) (hl : fq.length = 2) : zMeh (zVm l D B O) m_L_find hh_find 8 9 846 [.ref b, .int a1, .int a2, .ref q] G.2 (wQ q c 0 (.long a.toInt64) H1) (fun _ _ => False) := by
  refine zMeh.of (by decide +kernel) (Nat.le_of_ble_eq_true rfl) [some (.ref b), some (.int a1), some (.int a2), some (.ref q), none] (fun ls h => zEn_ok (n := 5) h) ?_
  refine Zh.blk (pc' := 4) (L' := [some (.ref b), some (.int a1), some (.int a2), some (.ref q), none]) (st' := [.int a2, .int a1, .ref b, .ref q]) (sg := [(.aload_n 3, 0), (.aload_n 0, 0), (.iload_n 1, 0), (.iload_n 2, 0)]) (by decide +kernel) rfl ?_
  refine Zh.oV (E := xI1) (As := [.int a1, .int a2]) (b := b) (st := [.ref q]) (n := 2) (a := .int a) hV.1 (k_X_find hV G b a1 a2) hF h1 h2 h3 cb_X_find lk_L_139 in_X_find se_X_find hb (by decide +kernel) rfl rfl (Nat.le_of_ble_eq_true rfl) (Nat.le_refl _) (fun h0 => ?_) (fun h0 => ?_)
  · obtain rfl : c = 1 := by omega
    · exact ⟨14, ⟨[], [], ⟨0, 11, 14, 19⟩, _, rfl, fun z hz => absurd hz List.not_mem_nil, by decide, by decide, ck_L_19, ca_IOE, rfl⟩, fun G' q9 g1 g2 g3 => Zh.blk (pc' := 17) (L' := [some (.ref b), some (.int a1), some (.int a2), some (.ref q), some (.ref q9)]) (st' := [.int (nI 1)]) (sg := [(.astore 4, 0), (.iconst 1, nI 1)]) (by decide +kernel) rfl (Zh.iret rfl rfl (by decide +kernel) ⟨rfl, g2, fun z _ => by rw [g3], fq, by rw [g3]; exact hq, hl, fun h9 => absurd h9 (by decide)⟩)⟩
  · subst h0
    refine Zh.blk (pc' := 8) (L' := [some (.ref b), some (.int a1), some (.int a2), some (.ref q), none]) (st' := [.long a.toInt64, .ref q]) (sg := [(.i2l, 0)]) (by decide +kernel) rfl ?_
    refine Zh.putn (fs := fq) (ty := .long) (v := .long a.toInt64) fn_L_13 (by decide) (by decide +kernel) hq (by rw [hl]; decide) rfl rfl ?_
    refine Zh.goto (off := 7) (tgt := 18) (by decide +kernel) (by decide) ?_
    refine Zh.blk (pc' := 19) (L' := [some (.ref b), some (.int a1), some (.int a2), some (.ref q), none]) (st' := [.int (nI 0)]) (sg := [(.iconst 0, nI 0)]) (by decide +kernel) rfl ?_
    exact Zh.iret rfl rfl (by decide +kernel) ⟨rfl, Nat.le_refl _, fun z hz => zUp_ne _ _ hz, _, zUp_at _ _ _, by rw [List.length_set]; exact hl, fun _ => by rw [List.getElem?_set_self (by rw [hl]; decide)]⟩
def m_L_spot : zM := (⟨"PartlisterLaw", "spot", "(LPartlister;IILPartlisterLaw$Out;)I"⟩, method_40_code, 5, some .int)
def hh_spot : zHh := [(0, 11, 14, 19), (0, 11, 18, 21), (0, 11, 22, 23)]
theorem cb_L_spot : zCbh m_L_spot hh_spot 4 := ⟨zU4 193 (cChkW_ok (by decide +kernel)) g_codeWith, ini_L, pln100, pld101, by decide⟩
theorem st_L_spot : Cond.static m_L_spot.1 ∈ zT := zU4 192 (by decide +kernel) g_static
theorem lk_L_293 : Cond.methodLink "PartlisterLaw" 293 m_L_spot.1 ∈ zT := zU4 191 (by decide +kernel) g_methodLink
set_option maxRecDepth 20000 in
theorem h_spot {l : Launch} {D : va_G} {B : Nat} {O : State → Heap → Prop} (hV : zG l D B O) (hN : zNo O) (G : gH) (b q : Nat) (a1 : Int32) (a2 : Int32) {fs fq : List Value} (hb : G.2.2 b = some (.inr (3, fs))) {c : Nat} {a : Int32} {H1 : gH} (hc : c ≤ 3) (hF : f_X_spot G b a1 a2 = oV xIAS c (.int a) H1) (h1 : H1.1 ≤ G.1 + 840) (h2 : H1.2.1 ≤ G.2.1 + 8) (h3 : G.2.1 ≤ H1.2.1) (hq : H1.2.2 q = some (.inr (7, fq))) (hl : fq.length = 2) : zMeh (zVm l D B O) m_L_spot hh_spot 8 9 846 [.ref b, .int a1, .int a2, .ref q] G.2 (wQ q c 0 (.long a.toInt64) H1) (fun _ _ => False) := by
  refine zMeh.of (by decide +kernel) (Nat.le_of_ble_eq_true rfl) [some (.ref b), some (.int a1), some (.int a2), some (.ref q), none] (fun ls h => zEn_ok (n := 5) h) ?_
  refine Zh.blk (pc' := 4) (L' := [some (.ref b), some (.int a1), some (.int a2), some (.ref q), none]) (st' := [.int a2, .int a1, .ref b, .ref q]) (sg := [(.aload_n 3, 0), (.aload_n 0, 0), (.iload_n 1, 0), (.iload_n 2, 0)]) (by decide +kernel) rfl ?_
  refine Zh.oV (E := xIAS) (As := [.int a1, .int a2]) (b := b) (st := [.ref q]) (n := 2) (a := .int a) hV.1 (k_X_spot hV G b a1 a2) hF h1 h2 h3 cb_X_spot lk_L_142 in_X_spot se_X_spot hb (by decide +kernel) rfl rfl (Nat.le_of_ble_eq_true rfl) (Nat.le_refl _) (fun h0 => ?_) (fun h0 => ?_)
  · obtain rfl | rfl | rfl : c = 1 ∨ c = 2 ∨ c = 3 := by omega
    · exact ⟨14, ⟨[], [⟨0, 11, 18, 21⟩, ⟨0, 11, 22, 23⟩], ⟨0, 11, 14, 19⟩, _, rfl, fun z hz => absurd hz List.not_mem_nil, by decide, by decide, ck_L_19, ca_IOE, rfl⟩, fun G' q9 g1 g2 g3 => Zh.blk (pc' := 17) (L' := [some (.ref b), some (.int a1), some (.int a2), some (.ref q), some (.ref q9)]) (st' := [.int (nI 1)]) (sg := [(.astore 4, 0), (.iconst 1, nI 1)]) (by decide +kernel) rfl (Zh.iret rfl rfl (by decide +kernel) ⟨rfl, g2, fun z _ => by rw [g3], fq, by rw [g3]; exact hq, hl, fun h9 => absurd h9 (by decide)⟩)⟩
    · exact ⟨18, ⟨[⟨0, 11, 14, 19⟩], [⟨0, 11, 22, 23⟩], ⟨0, 11, 18, 21⟩, _, rfl, List.forall_mem_cons.mpr ⟨⟨by decide, _, ck_L_19, fun U H h9 => (hN U H h9).1⟩, fun z hz => absurd hz List.not_mem_nil⟩, by decide, by decide, ck_L_21, ca_IAE, rfl⟩, fun G' q9 g1 g2 g3 => Zh.blk (pc' := 21) (L' := [some (.ref b), some (.int a1), some (.int a2), some (.ref q), some (.ref q9)]) (st' := [.int (nI 2)]) (sg := [(.astore 4, 0), (.iconst 2, nI 2)]) (by decide +kernel) rfl (Zh.iret rfl rfl (by decide +kernel) ⟨rfl, g2, fun z _ => by rw [g3], fq, by rw [g3]; exact hq, hl, fun h9 => absurd h9 (by decide)⟩)⟩
    · exact ⟨22, ⟨[⟨0, 11, 14, 19⟩, ⟨0, 11, 18, 21⟩], [], ⟨0, 11, 22, 23⟩, _, rfl, List.forall_mem_cons.mpr ⟨⟨by decide, _, ck_L_19, fun U H h9 => (hN U H h9).2.1⟩, List.forall_mem_cons.mpr ⟨⟨by decide, _, ck_L_21, fun U H h9 => (hN U H h9).2.2⟩, fun z hz => absurd hz List.not_mem_nil⟩⟩, by decide, by decide, ck_L_23, ca_ISE, rfl⟩, fun G' q9 g1 g2 g3 => Zh.blk (pc' := 25) (L' := [some (.ref b), some (.int a1), some (.int a2), some (.ref q), some (.ref q9)]) (st' := [.int (nI 3)]) (sg := [(.astore 4, 0), (.iconst 3, nI 3)]) (by decide +kernel) rfl (Zh.iret rfl rfl (by decide +kernel) ⟨rfl, g2, fun z _ => by rw [g3], fq, by rw [g3]; exact hq, hl, fun h9 => absurd h9 (by decide)⟩)⟩
  · subst h0
    refine Zh.blk (pc' := 8) (L' := [some (.ref b), some (.int a1), some (.int a2), some (.ref q), none]) (st' := [.long a.toInt64, .ref q]) (sg := [(.i2l, 0)]) (by decide +kernel) rfl ?_
    refine Zh.putn (fs := fq) (ty := .long) (v := .long a.toInt64) fn_L_13 (by decide) (by decide +kernel) hq (by rw [hl]; decide) rfl rfl ?_
    refine Zh.goto (off := 15) (tgt := 26) (by decide +kernel) (by decide) ?_
    refine Zh.blk (pc' := 27) (L' := [some (.ref b), some (.int a1), some (.int a2), some (.ref q), none]) (st' := [.int (nI 0)]) (sg := [(.iconst 0, nI 0)]) (by decide +kernel) rfl ?_
    exact Zh.iret rfl rfl (by decide +kernel) ⟨rfl, Nat.le_refl _, fun z hz => zUp_ne _ _ hz, _, zUp_at _ _ _, by rw [List.length_set]; exact hl, fun _ => by rw [List.getElem?_set_self (by rw [hl]; decide)]⟩
def m_L_extreme : zM := (⟨"PartlisterLaw", "extreme", "(LPartlister;IZLPartlisterLaw$Out;)I"⟩, method_41_code, 5, some .int)
def hh_extreme : zHh := [(0, 11, 14, 19)]
theorem cb_L_extreme : zCbh m_L_extreme hh_extreme 4 := ⟨zU4 209 (cChkW_ok (by decide +kernel)) g_codeWith, ini_L, pln100, pld104, by decide⟩
theorem st_L_extreme : Cond.static m_L_extreme.1 ∈ zT := zU4 208 (by decide +kernel) g_static
theorem lk_L_296 : Cond.methodLink "PartlisterLaw" 296 m_L_extreme.1 ∈ zT := zU4 207 (by decide +kernel) g_methodLink
set_option maxRecDepth 20000 in
theorem h_extreme {l : Launch} {D : va_G} {B : Nat} {O : State → Heap → Prop} (hV : zG l D B O) (hN : zNo O) (G : gH) (b q : Nat) (a1 : Int32) (a2 : Int32) {fs fq : List Value} (hb : G.2.2 b = some (.inr (3, fs))) {c : Nat} {a : Int32} {H1 : gH} (hc : c ≤ 1) (hF : f_X_extreme G b a1 a2 = oV xI1 c (.int a) H1) (h1 : H1.1 ≤ G.1 + 840) (h2 : H1.2.1 ≤ G.2.1 + 8) (h3 : G.2.1 ≤ H1.2.1) (hq : H1.2.2 q = some (.inr (7, fq))) (hl : fq.length = 2) : zMeh (zVm l D B O) m_L_extreme hh_extreme 8 9 846 [.ref b, .int a1, .int a2, .ref q] G.2 (wQ q c 0 (.long a.toInt64) H1) (fun _ _ => False) := by
  refine zMeh.of (by decide +kernel) (Nat.le_of_ble_eq_true rfl) [some (.ref b), some (.int a1), some (.int a2), some (.ref q), none] (fun ls h => zEn_ok (n := 5) h) ?_
  refine Zh.blk (pc' := 4) (L' := [some (.ref b), some (.int a1), some (.int a2), some (.ref q), none]) (st' := [.int a2, .int a1, .ref b, .ref q]) (sg := [(.aload_n 3, 0), (.aload_n 0, 0), (.iload_n 1, 0), (.iload_n 2, 0)]) (by decide +kernel) rfl ?_
  refine Zh.oV (E := xI1) (As := [.int a1, .int a2]) (b := b) (st := [.ref q]) (n := 2) (a := .int a) hV.1 (k_X_extreme hV G b a1 a2) hF h1 h2 h3 cb_X_extreme lk_L_145 in_X_extreme se_X_extreme hb (by decide +kernel) rfl rfl (Nat.le_of_ble_eq_true rfl) (Nat.le_refl _) (fun h0 => ?_) (fun h0 => ?_)
  · obtain rfl : c = 1 := by omega
    · exact ⟨14, ⟨[], [], ⟨0, 11, 14, 19⟩, _, rfl, fun z hz => absurd hz List.not_mem_nil, by decide, by decide, ck_L_19, ca_IOE, rfl⟩, fun G' q9 g1 g2 g3 => Zh.blk (pc' := 17) (L' := [some (.ref b), some (.int a1), some (.int a2), some (.ref q), some (.ref q9)]) (st' := [.int (nI 1)]) (sg := [(.astore 4, 0), (.iconst 1, nI 1)]) (by decide +kernel) rfl (Zh.iret rfl rfl (by decide +kernel) ⟨rfl, g2, fun z _ => by rw [g3], fq, by rw [g3]; exact hq, hl, fun h9 => absurd h9 (by decide)⟩)⟩
  · subst h0
    refine Zh.blk (pc' := 8) (L' := [some (.ref b), some (.int a1), some (.int a2), some (.ref q), none]) (st' := [.long a.toInt64, .ref q]) (sg := [(.i2l, 0)]) (by decide +kernel) rfl ?_
    refine Zh.putn (fs := fq) (ty := .long) (v := .long a.toInt64) fn_L_13 (by decide) (by decide +kernel) hq (by rw [hl]; decide) rfl rfl ?_
    refine Zh.goto (off := 7) (tgt := 18) (by decide +kernel) (by decide) ?_
    refine Zh.blk (pc' := 19) (L' := [some (.ref b), some (.int a1), some (.int a2), some (.ref q), none]) (st' := [.int (nI 0)]) (sg := [(.iconst 0, nI 0)]) (by decide +kernel) rfl ?_
    exact Zh.iret rfl rfl (by decide +kernel) ⟨rfl, Nat.le_refl _, fun z hz => zUp_ne _ _ hz, _, zUp_at _ _ _, by rw [List.length_set]; exact hl, fun _ => by rw [List.getElem?_set_self (by rw [hl]; decide)]⟩
def m_L_hash : zM := (⟨"PartlisterLaw", "hash", "(LPartlister;ILPartlisterLaw$Out;)I"⟩, method_42_code, 4, some .int)
def hh_hash : zHh := [(0, 10, 13, 19)]
theorem cb_L_hash : zCbh m_L_hash hh_hash 3 := ⟨zU4 216 (cChkW_ok (by decide +kernel)) g_codeWith, ini_L, pln100, pld103, by decide⟩
theorem st_L_hash : Cond.static m_L_hash.1 ∈ zT := zU4 215 (by decide +kernel) g_static
theorem lk_L_299 : Cond.methodLink "PartlisterLaw" 299 m_L_hash.1 ∈ zT := zU4 214 (by decide +kernel) g_methodLink
set_option maxRecDepth 20000 in
theorem h_hash {l : Launch} {D : va_G} {B : Nat} {O : State → Heap → Prop} (hV : zG l D B O) (hN : zNo O) (G : gH) (b q : Nat) (a1 : Int32) {fs fq : List Value} (hb : G.2.2 b = some (.inr (3, fs))) {c : Nat} {a : Int32} {H1 : gH} (hc : c ≤ 1) (hF : f_X_hash G b a1 = oV xI1 c (.int a) H1) (h1 : H1.1 ≤ G.1 + 840) (h2 : H1.2.1 ≤ G.2.1 + 8) (h3 : G.2.1 ≤ H1.2.1) (hq : H1.2.2 q = some (.inr (7, fq))) (hl : fq.length = 2) : zMeh (zVm l D B O) m_L_hash hh_hash 8 9 846 [.ref b, .int a1, .ref q] G.2 (wQ q c 0 (.long a.toInt64) H1) (fun _ _ => False) := by
  refine zMeh.of (by decide +kernel) (Nat.le_of_ble_eq_true rfl) [some (.ref b), some (.int a1), some (.ref q), none] (fun ls h => zEn_ok (n := 4) h) ?_
  refine Zh.blk (pc' := 3) (L' := [some (.ref b), some (.int a1), some (.ref q), none]) (st' := [.int a1, .ref b, .ref q]) (sg := [(.aload_n 2, 0), (.aload_n 0, 0), (.iload_n 1, 0)]) (by decide +kernel) rfl ?_
  refine Zh.oV (E := xI1) (As := [.int a1]) (b := b) (st := [.ref q]) (n := 1) (a := .int a) hV.1 (k_X_hash hV G b a1) hF h1 h2 h3 cb_X_hash lk_L_148 in_X_hash se_X_hash hb (by decide +kernel) rfl rfl (Nat.le_of_ble_eq_true rfl) (Nat.le_refl _) (fun h0 => ?_) (fun h0 => ?_)
  · obtain rfl : c = 1 := by omega
    · exact ⟨13, ⟨[], [], ⟨0, 10, 13, 19⟩, _, rfl, fun z hz => absurd hz List.not_mem_nil, by decide, by decide, ck_L_19, ca_IOE, rfl⟩, fun G' q9 g1 g2 g3 => Zh.blk (pc' := 15) (L' := [some (.ref b), some (.int a1), some (.ref q), some (.ref q9)]) (st' := [.int (nI 1)]) (sg := [(.astore_n 3, 0), (.iconst 1, nI 1)]) (by decide +kernel) rfl (Zh.iret rfl rfl (by decide +kernel) ⟨rfl, g2, fun z _ => by rw [g3], fq, by rw [g3]; exact hq, hl, fun h9 => absurd h9 (by decide)⟩)⟩
  · subst h0
    refine Zh.blk (pc' := 7) (L' := [some (.ref b), some (.int a1), some (.ref q), none]) (st' := [.long a.toInt64, .ref q]) (sg := [(.i2l, 0)]) (by decide +kernel) rfl ?_
    refine Zh.putn (fs := fq) (ty := .long) (v := .long a.toInt64) fn_L_13 (by decide) (by decide +kernel) hq (by rw [hl]; decide) rfl rfl ?_
    refine Zh.goto (off := 6) (tgt := 16) (by decide +kernel) (by decide) ?_
    refine Zh.blk (pc' := 17) (L' := [some (.ref b), some (.int a1), some (.ref q), none]) (st' := [.int (nI 0)]) (sg := [(.iconst 0, nI 0)]) (by decide +kernel) rfl ?_
    exact Zh.iret rfl rfl (by decide +kernel) ⟨rfl, Nat.le_refl _, fun z hz => zUp_ne _ _ hz, _, zUp_at _ _ _, by rw [List.length_set]; exact hl, fun _ => by rw [List.getElem?_set_self (by rw [hl]; decide)]⟩
def m_L_text : zM := (⟨"PartlisterLaw", "text", "(LPartlister;ILPartlisterLaw$Out;)I"⟩, method_43_code, 4, some .int)
def hh_text : zHh := [(0, 9, 12, 19)]
theorem cb_L_text : zCbh m_L_text hh_text 3 := ⟨zU4 223 (cChkW_ok (by decide +kernel)) g_codeWith, ini_L, pln100, pld103, by decide⟩
theorem st_L_text : Cond.static m_L_text.1 ∈ zT := zU4 222 (by decide +kernel) g_static
theorem lk_L_302 : Cond.methodLink "PartlisterLaw" 302 m_L_text.1 ∈ zT := zU4 221 (by decide +kernel) g_methodLink
set_option maxRecDepth 20000 in
theorem h_text {l : Launch} {D : va_G} {B : Nat} {O : State → Heap → Prop} {w : Nat → Nat} (hV : zGw l D B O w) (hN : zNo O) (G : gH) (b q : Nat) (a1 : Int32) {fs fq : List Value} (hb : G.2.2 b = some (.inr (3, fs))) {c : Nat} {a : Nat} {H1 : gH} (hc : c ≤ 1) (hF : f_X_text w G b a1 = oV xI1 c (.ref a) H1) (h1 : H1.1 ≤ G.1 + 840) (h2 : H1.2.1 ≤ G.2.1 + 8) (h3 : G.2.1 ≤ H1.2.1) (hq : H1.2.2 q = some (.inr (7, fq))) (hl : fq.length = 2) : zMeh (zVm l D B O) m_L_text hh_text 9 9 846 [.ref b, .int a1, .ref q] G.2 (wQ q c 1 (.ref a) H1) (fun _ _ => False) := by
  refine zMeh.of (by decide +kernel) (Nat.le_of_ble_eq_true rfl) [some (.ref b), some (.int a1), some (.ref q), none] (fun ls h => zEn_ok (n := 4) h) ?_
  refine Zh.blk (pc' := 3) (L' := [some (.ref b), some (.int a1), some (.ref q), none]) (st' := [.int a1, .ref b, .ref q]) (sg := [(.aload_n 2, 0), (.aload_n 0, 0), (.iload_n 1, 0)]) (by decide +kernel) rfl ?_
  refine Zh.oV (E := xI1) (As := [.int a1]) (b := b) (st := [.ref q]) (n := 1) (a := .ref a) hV.1.1 (k_X_text hV G b a1) hF h1 h2 h3 cb_X_text lk_L_151 in_X_text se_X_text hb (by decide +kernel) rfl rfl (Nat.le_of_ble_eq_true rfl) (Nat.le_refl _) (fun h0 => ?_) (fun h0 => ?_)
  · obtain rfl : c = 1 := by omega
    · exact ⟨12, ⟨[], [], ⟨0, 9, 12, 19⟩, _, rfl, fun z hz => absurd hz List.not_mem_nil, by decide, by decide, ck_L_19, ca_IOE, rfl⟩, fun G' q9 g1 g2 g3 => Zh.blk (pc' := 14) (L' := [some (.ref b), some (.int a1), some (.ref q), some (.ref q9)]) (st' := [.int (nI 1)]) (sg := [(.astore_n 3, 0), (.iconst 1, nI 1)]) (by decide +kernel) rfl (Zh.iret rfl rfl (by decide +kernel) ⟨rfl, g2, fun z _ => by rw [g3], fq, by rw [g3]; exact hq, hl, fun h9 => absurd h9 (by decide)⟩)⟩
  · subst h0
    refine Zh.putn (fs := fq) (ty := .object "java/lang/String") (v := .ref a) fn_L_155 (by decide) (by decide +kernel) hq (by rw [hl]; decide) rfl rfl ?_
    refine Zh.goto (off := 6) (tgt := 15) (by decide +kernel) (by decide) ?_
    refine Zh.blk (pc' := 16) (L' := [some (.ref b), some (.int a1), some (.ref q), none]) (st' := [.int (nI 0)]) (sg := [(.iconst 0, nI 0)]) (by decide +kernel) rfl ?_
    exact Zh.iret rfl rfl (by decide +kernel) ⟨rfl, Nat.le_refl _, fun z hz => zUp_ne _ _ hz, _, zUp_at _ _ _, by rw [List.length_set]; exact hl, fun _ => by rw [List.getElem?_set_self (by rw [hl]; decide)]⟩
def m_L_ofPart : zM := (⟨"PartlisterLaw", "ofPart", "(LPartlister;IILPartlisterLaw$Out;)I"⟩, method_44_code, 5, some .int)
def hh_ofPart : zHh := [(0, 11, 14, 19), (0, 11, 18, 21)]
theorem cb_L_ofPart : zCbh m_L_ofPart hh_ofPart 4 := ⟨zU6 16 (cChkW_ok (by decide +kernel)) g_codeWith, ini_L, pln100, pld101, by decide⟩
theorem st_L_ofPart : Cond.static m_L_ofPart.1 ∈ zT := zU6 15 (by decide +kernel) g_static
theorem lk_L_305 : Cond.methodLink "PartlisterLaw" 305 m_L_ofPart.1 ∈ zT := zU6 14 (by decide +kernel) g_methodLink
set_option maxRecDepth 20000 in
theorem h_ofPart {l : Launch} {D : va_G} {B : Nat} {O : State → Heap → Prop} (hV : zG l D B O) (hN : zNo O) (G : gH) (b q : Nat) (a1 : Int32) (a2 : Int32) {fs fq : List Value} (hb : G.2.2 b = some (.inr (3, fs))) {c : Nat} {a : Int32} {H1 : gH} (hc : c ≤ 2) (hF : f_X_ofPart G b a1 a2 = oV xIG c (.int a) H1) (h1 : H1.1 ≤ G.1 + 840) (h2 : H1.2.1 ≤ G.2.1 + 8) (h3 : G.2.1 ≤ H1.2.1) (hq : H1.2.2 q = some (.inr (7, fq))) (hl : fq.length = 2) : zMeh (zVm l D B O) m_L_ofPart hh_ofPart 8 9 846 [.ref b, .int a1, .int a2, .ref q] G.2 (wQ q c 0 (.long a.toInt64) H1) (fun _ _ => False) := by
  refine zMeh.of (by decide +kernel) (Nat.le_of_ble_eq_true rfl) [some (.ref b), some (.int a1), some (.int a2), some (.ref q), none] (fun ls h => zEn_ok (n := 5) h) ?_
  refine Zh.blk (pc' := 4) (L' := [some (.ref b), some (.int a1), some (.int a2), some (.ref q), none]) (st' := [.int a2, .int a1, .ref b, .ref q]) (sg := [(.aload_n 3, 0), (.aload_n 0, 0), (.iload_n 1, 0), (.iload_n 2, 0)]) (by decide +kernel) rfl ?_
  refine Zh.oV (E := xIG) (As := [.int a1, .int a2]) (b := b) (st := [.ref q]) (n := 2) (a := .int a) hV.1 (k_X_ofPart hV G b a1 a2) hF h1 h2 h3 cb_X_ofPart lk_L_159 in_X_ofPart se_X_ofPart hb (by decide +kernel) rfl rfl (Nat.le_of_ble_eq_true rfl) (Nat.le_refl _) (fun h0 => ?_) (fun h0 => ?_)
  · obtain rfl | rfl : c = 1 ∨ c = 2 := by omega
    · exact ⟨14, ⟨[], [⟨0, 11, 18, 21⟩], ⟨0, 11, 14, 19⟩, _, rfl, fun z hz => absurd hz List.not_mem_nil, by decide, by decide, ck_L_19, ca_IOE, rfl⟩, fun G' q9 g1 g2 g3 => Zh.blk (pc' := 17) (L' := [some (.ref b), some (.int a1), some (.int a2), some (.ref q), some (.ref q9)]) (st' := [.int (nI 1)]) (sg := [(.astore 4, 0), (.iconst 1, nI 1)]) (by decide +kernel) rfl (Zh.iret rfl rfl (by decide +kernel) ⟨rfl, g2, fun z _ => by rw [g3], fq, by rw [g3]; exact hq, hl, fun h9 => absurd h9 (by decide)⟩)⟩
    · exact ⟨18, ⟨[⟨0, 11, 14, 19⟩], [], ⟨0, 11, 18, 21⟩, _, rfl, List.forall_mem_cons.mpr ⟨⟨by decide, _, ck_L_19, fun U H h9 => (hN U H h9).1⟩, fun z hz => absurd hz List.not_mem_nil⟩, by decide, by decide, ck_L_21, ca_IAE, rfl⟩, fun G' q9 g1 g2 g3 => Zh.blk (pc' := 21) (L' := [some (.ref b), some (.int a1), some (.int a2), some (.ref q), some (.ref q9)]) (st' := [.int (nI 2)]) (sg := [(.astore 4, 0), (.iconst 2, nI 2)]) (by decide +kernel) rfl (Zh.iret rfl rfl (by decide +kernel) ⟨rfl, g2, fun z _ => by rw [g3], fq, by rw [g3]; exact hq, hl, fun h9 => absurd h9 (by decide)⟩)⟩
  · subst h0
    refine Zh.blk (pc' := 8) (L' := [some (.ref b), some (.int a1), some (.int a2), some (.ref q), none]) (st' := [.long a.toInt64, .ref q]) (sg := [(.i2l, 0)]) (by decide +kernel) rfl ?_
    refine Zh.putn (fs := fq) (ty := .long) (v := .long a.toInt64) fn_L_13 (by decide) (by decide +kernel) hq (by rw [hl]; decide) rfl rfl ?_
    refine Zh.goto (off := 11) (tgt := 22) (by decide +kernel) (by decide) ?_
    refine Zh.blk (pc' := 23) (L' := [some (.ref b), some (.int a1), some (.int a2), some (.ref q), none]) (st' := [.int (nI 0)]) (sg := [(.iconst 0, nI 0)]) (by decide +kernel) rfl ?_
    exact Zh.iret rfl rfl (by decide +kernel) ⟨rfl, Nat.le_refl _, fun z hz => zUp_ne _ _ hz, _, zUp_at _ _ _, by rw [List.length_set]; exact hl, fun _ => by rw [List.getElem?_set_self (by rw [hl]; decide)]⟩
def m_L_ofCursor : zM := (⟨"PartlisterLaw", "ofCursor", "(LPartlister;IILPartlisterLaw$Out;)I"⟩, method_45_code, 5, some .int)
def hh_ofCursor : zHh := [(0, 11, 14, 19), (0, 11, 18, 21)]
theorem cb_L_ofCursor : zCbh m_L_ofCursor hh_ofCursor 4 := ⟨zU6 24 (cChkW_ok (by decide +kernel)) g_codeWith, ini_L, pln100, pld101, by decide⟩
theorem st_L_ofCursor : Cond.static m_L_ofCursor.1 ∈ zT := zU6 23 (by decide +kernel) g_static
theorem lk_L_308 : Cond.methodLink "PartlisterLaw" 308 m_L_ofCursor.1 ∈ zT := zU6 22 (by decide +kernel) g_methodLink
set_option maxRecDepth 20000 in
theorem h_ofCursor {l : Launch} {D : va_G} {B : Nat} {O : State → Heap → Prop} (hV : zG l D B O) (hN : zNo O) (G : gH) (b q : Nat) (a1 : Int32) (a2 : Int32) {fs fq : List Value} (hb : G.2.2 b = some (.inr (3, fs))) {c : Nat} {a : Int32} {H1 : gH} (hc : c ≤ 2) (hF : f_X_ofCursor G b a1 a2 = oV xIG c (.int a) H1) (h1 : H1.1 ≤ G.1 + 840) (h2 : H1.2.1 ≤ G.2.1 + 8) (h3 : G.2.1 ≤ H1.2.1) (hq : H1.2.2 q = some (.inr (7, fq))) (hl : fq.length = 2) : zMeh (zVm l D B O) m_L_ofCursor hh_ofCursor 7 9 846 [.ref b, .int a1, .int a2, .ref q] G.2 (wQ q c 0 (.long a.toInt64) H1) (fun _ _ => False) := by
  refine zMeh.of (by decide +kernel) (Nat.le_of_ble_eq_true rfl) [some (.ref b), some (.int a1), some (.int a2), some (.ref q), none] (fun ls h => zEn_ok (n := 5) h) ?_
  refine Zh.blk (pc' := 4) (L' := [some (.ref b), some (.int a1), some (.int a2), some (.ref q), none]) (st' := [.int a2, .int a1, .ref b, .ref q]) (sg := [(.aload_n 3, 0), (.aload_n 0, 0), (.iload_n 1, 0), (.iload_n 2, 0)]) (by decide +kernel) rfl ?_
  refine Zh.oV (E := xIG) (As := [.int a1, .int a2]) (b := b) (st := [.ref q]) (n := 2) (a := .int a) hV.1 (k_X_ofCursor hV G b a1 a2) hF h1 h2 h3 cb_X_ofCursor lk_L_162 in_X_ofCursor se_X_ofCursor hb (by decide +kernel) rfl rfl (Nat.le_of_ble_eq_true rfl) (Nat.le_refl _) (fun h0 => ?_) (fun h0 => ?_)
  · obtain rfl | rfl : c = 1 ∨ c = 2 := by omega
    · exact ⟨14, ⟨[], [⟨0, 11, 18, 21⟩], ⟨0, 11, 14, 19⟩, _, rfl, fun z hz => absurd hz List.not_mem_nil, by decide, by decide, ck_L_19, ca_IOE, rfl⟩, fun G' q9 g1 g2 g3 => Zh.blk (pc' := 17) (L' := [some (.ref b), some (.int a1), some (.int a2), some (.ref q), some (.ref q9)]) (st' := [.int (nI 1)]) (sg := [(.astore 4, 0), (.iconst 1, nI 1)]) (by decide +kernel) rfl (Zh.iret rfl rfl (by decide +kernel) ⟨rfl, g2, fun z _ => by rw [g3], fq, by rw [g3]; exact hq, hl, fun h9 => absurd h9 (by decide)⟩)⟩
    · exact ⟨18, ⟨[⟨0, 11, 14, 19⟩], [], ⟨0, 11, 18, 21⟩, _, rfl, List.forall_mem_cons.mpr ⟨⟨by decide, _, ck_L_19, fun U H h9 => (hN U H h9).1⟩, fun z hz => absurd hz List.not_mem_nil⟩, by decide, by decide, ck_L_21, ca_IAE, rfl⟩, fun G' q9 g1 g2 g3 => Zh.blk (pc' := 21) (L' := [some (.ref b), some (.int a1), some (.int a2), some (.ref q), some (.ref q9)]) (st' := [.int (nI 2)]) (sg := [(.astore 4, 0), (.iconst 2, nI 2)]) (by decide +kernel) rfl (Zh.iret rfl rfl (by decide +kernel) ⟨rfl, g2, fun z _ => by rw [g3], fq, by rw [g3]; exact hq, hl, fun h9 => absurd h9 (by decide)⟩)⟩
  · subst h0
    refine Zh.blk (pc' := 8) (L' := [some (.ref b), some (.int a1), some (.int a2), some (.ref q), none]) (st' := [.long a.toInt64, .ref q]) (sg := [(.i2l, 0)]) (by decide +kernel) rfl ?_
    refine Zh.putn (fs := fq) (ty := .long) (v := .long a.toInt64) fn_L_13 (by decide) (by decide +kernel) hq (by rw [hl]; decide) rfl rfl ?_
    refine Zh.goto (off := 11) (tgt := 22) (by decide +kernel) (by decide) ?_
    refine Zh.blk (pc' := 23) (L' := [some (.ref b), some (.int a1), some (.int a2), some (.ref q), none]) (st' := [.int (nI 0)]) (sg := [(.iconst 0, nI 0)]) (by decide +kernel) rfl ?_
    exact Zh.iret rfl rfl (by decide +kernel) ⟨rfl, Nat.le_refl _, fun z hz => zUp_ne _ _ hz, _, zUp_at _ _ _, by rw [List.length_set]; exact hl, fun _ => by rw [List.getElem?_set_self (by rw [hl]; decide)]⟩
def m_L_house : zM := (⟨"PartlisterLaw", "house", "(LPartlister;ILPartlisterLaw$Out;)I"⟩, method_46_code, 4, some .int)
def hh_house : zHh := [(0, 10, 13, 21)]
theorem cb_L_house : zCbh m_L_house hh_house 3 := ⟨zU6 33 (cChkW_ok (by decide +kernel)) g_codeWith, ini_L, pln100, pld103, by decide⟩
theorem st_L_house : Cond.static m_L_house.1 ∈ zT := zU6 32 (by decide +kernel) g_static
theorem lk_L_315 : Cond.methodLink "PartlisterLaw" 315 m_L_house.1 ∈ zT := zU6 31 (by decide +kernel) g_methodLink
set_option maxRecDepth 20000 in
theorem h_house {l : Launch} {D : va_G} {B : Nat} {O : State → Heap → Prop} (hV : zG l D B O) (hN : zNo O) (G : gH) (b q : Nat) (a1 : Int32) {fs fq : List Value} (hb : G.2.2 b = some (.inr (3, fs))) {c : Nat} {a : Int32} {H1 : gH} (hc : c ≤ 1) (hF : f_X_house G b a1 = oV xA1 c (.int a) H1) (h1 : H1.1 ≤ G.1 + 840) (h2 : H1.2.1 ≤ G.2.1 + 8) (h3 : G.2.1 ≤ H1.2.1) (hq : H1.2.2 q = some (.inr (7, fq))) (hl : fq.length = 2) : zMeh (zVm l D B O) m_L_house hh_house 7 9 846 [.ref b, .int a1, .ref q] G.2 (wQ q c 0 (.long a.toInt64) H1) (fun _ _ => False) := by
  refine zMeh.of (by decide +kernel) (Nat.le_of_ble_eq_true rfl) [some (.ref b), some (.int a1), some (.ref q), none] (fun ls h => zEn_ok (n := 4) h) ?_
  refine Zh.blk (pc' := 3) (L' := [some (.ref b), some (.int a1), some (.ref q), none]) (st' := [.int a1, .ref b, .ref q]) (sg := [(.aload_n 2, 0), (.aload_n 0, 0), (.iload_n 1, 0)]) (by decide +kernel) rfl ?_
  refine Zh.oV (E := xA1) (As := [.int a1]) (b := b) (st := [.ref q]) (n := 1) (a := .int a) hV.1 (k_X_house hV G b a1) hF h1 h2 h3 cb_X_house lk_L_165 in_X_house se_X_house hb (by decide +kernel) rfl rfl (Nat.le_of_ble_eq_true rfl) (Nat.le_refl _) (fun h0 => ?_) (fun h0 => ?_)
  · obtain rfl : c = 1 := by omega
    · exact ⟨13, ⟨[], [], ⟨0, 10, 13, 21⟩, _, rfl, fun z hz => absurd hz List.not_mem_nil, by decide, by decide, ck_L_21, ca_IAE, rfl⟩, fun G' q9 g1 g2 g3 => Zh.blk (pc' := 15) (L' := [some (.ref b), some (.int a1), some (.ref q), some (.ref q9)]) (st' := [.int (nI 1)]) (sg := [(.astore_n 3, 0), (.iconst 1, nI 1)]) (by decide +kernel) rfl (Zh.iret rfl rfl (by decide +kernel) ⟨rfl, g2, fun z _ => by rw [g3], fq, by rw [g3]; exact hq, hl, fun h9 => absurd h9 (by decide)⟩)⟩
  · subst h0
    refine Zh.blk (pc' := 7) (L' := [some (.ref b), some (.int a1), some (.ref q), none]) (st' := [.long a.toInt64, .ref q]) (sg := [(.i2l, 0)]) (by decide +kernel) rfl ?_
    refine Zh.putn (fs := fq) (ty := .long) (v := .long a.toInt64) fn_L_13 (by decide) (by decide +kernel) hq (by rw [hl]; decide) rfl rfl ?_
    refine Zh.goto (off := 6) (tgt := 16) (by decide +kernel) (by decide) ?_
    refine Zh.blk (pc' := 17) (L' := [some (.ref b), some (.int a1), some (.ref q), none]) (st' := [.int (nI 0)]) (sg := [(.iconst 0, nI 0)]) (by decide +kernel) rfl ?_
    exact Zh.iret rfl rfl (by decide +kernel) ⟨rfl, Nat.le_refl _, fun z hz => zUp_ne _ _ hz, _, zUp_at _ _ _, by rw [List.length_set]; exact hl, fun _ => by rw [List.getElem?_set_self (by rw [hl]; decide)]⟩
