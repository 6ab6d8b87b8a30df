section
theorem zEn_len : ∀ (n : Nat) (As : List Value), (zEn n As).length = n
  | 0, _ => rfl
  | n + 1, [] => by simp [zEn, zEn_len n []]
  | 0 + 1, .long x :: t => rfl
  | n + 1 + 1, .long x :: t => by simp [zEn, zEn_len n t]
  | 0 + 1, .double x :: t => rfl
  | n + 1 + 1, .double x :: t => by simp [zEn, zEn_len n t]
  | n + 1, .int x :: t => by simp [zEn, zEn_len n t]
  | n + 1, .float x :: t => by simp [zEn, zEn_len n t]
  | n + 1, .null :: t => by simp [zEn, zEn_len n t]
  | n + 1, .ref x :: t => by simp [zEn, zEn_len n t]
  | n + 1, .retAddr x :: t => by simp [zEn, zEn_len n t]
theorem zEn_get : ∀ (n : Nat) (As : List Value) (k i : Nat) (v : Value), (zEn n As)[i]? = some (some v) → (k + i, v) ∈ lv_args k As
  | 0, As, k, i, v, h => by simp [zEn] at h
  | n + 1, [], k, i, v, h => by
    cases i with
    | zero => simp [zEn] at h
    | succ i => simp [zEn] at h; exact absurd (zEn_get n [] (k + 1) i v h) (by simp [lv_args])
  | n + 1, a :: t, k, i, v, h => by
    cases i with
    | zero =>
      have e : a = v := by cases n <;> cases a <;> simp [zEn] at h <;> exact h
      subst e
      exact List.mem_cons_self
    | succ i =>
      refine List.mem_cons_of_mem _ ?_
      by_cases hc : a.category = 2
      · rw [if_pos hc]
        have h9 : ∃ n', n = n' + 1 ∧ (none :: zEn n' t)[i]? = some (some v) := by
          cases a <;> simp [Value.category] at hc <;> cases n <;> simp [zEn] at h ⊢ <;> exact h
        obtain ⟨n', rfl, h9⟩ := h9
        cases i with
        | zero => simp at h9
        | succ i =>
          have := zEn_get n' t (k + 2) i v (by simpa using h9)
          rw [show k + (i + 1 + 1) = k + 2 + i by omega]
          exact this
      · rw [if_neg hc]
        have h9 : (zEn n t)[i]? = some (some v) := by
          cases a <;> simp [Value.category] at hc <;> simpa [zEn] using h
        have := zEn_get n t (k + 1) i v h9
        rw [show k + (i + 1) = k + 1 + i by omega]
        exact this
termination_by n => n
theorem zEn_ok {ls : Array Slot} {n : Nat} {As : List Value} (h : lv_has ls n (lv_args 0 As)) : zL ls (zEn n As) :=
  zL_of h (zEn_len n As) (fun i v hv => by
    have := zEn_get n As 0 i v hv
    rwa [Nat.zero_add] at this)
def zFu : Nat := 6000
def zDp : Nat := 8
def zNm : List String := ["java/lang/RuntimeException", "java/lang/Exception"]
def zStr : List (String × Nat × String) := [("Partlister", 329, "there is no such LIST"), ("Partlister", 341, "key is not 0 to 30"), ("Partlister", 343, "a ROW has at most 31"), ("Partlister", 339, "not 0 to LENGTH"), ("Partlister", 345, "both are of the same ROW"), ("Partlister", 337, "there is no such PLACE"), ("Partlister", 83, "by is not 1 to 9"), ("Partlister", 88, "rest is not 0 to by - 1"), ("Partlister", 90, "times is not 0 to 30"), ("Partlister", 92, "more is not 0 to 30"), ("Partlister", 331, "row is not 0 or 1"), ("Partlister", 112, "order is not 0 to 4"), ("Partlister", 120, "by is not -40 to 40"), ("Partlister", 127, "to is not from to LENGTH"), ("Partlister", 136, "there are four PARTS"), ("Partlister", 333, "there is no such PART"), ("Partlister", 162, "there are three CURSORS"), ("Partlister", 335, "there is no such CURSOR"), ("Partlister", 185, "list is not 0 to 5"), ("Partlister", 208, "the LIST is not SORTED"), ("Partlister", 236, "what is not 0 to 3"), ("Partlister", 241, "cursor is not 0 to 2"), ("Partlister", 243, "what is not 0 to 6"), ("Partlister", 248, "what is not 0 to 7")]
abbrev zVm (l : Launch) (D : va_G) (B : Nat) (O : State → Heap → Prop) : zV := (l, D, zCl, zTys, B, O)
/-- what a throw needs of the old cells -/
def zTh (V : zV) : Prop := ∀ (own : String) (k : Nat) (tx : String), (own, k, tx) ∈ zStr → ∀ (U : State) (H : Heap), V.2.2.2.2.2 U H → vx_Zq Bundle.tN "UNASSIGNED_STACK" Bundle.steD (zA V) U H ∧ vx_Zq Bundle.tN "SUPPRESSED_SENTINEL" Bundle.listD (zA V) U H ∧ ∃ sa : Nat, vk_R own k tx sa U
def zG (l : Launch) (D : va_G) (B : Nat) (O : State → Heap → Prop) : Prop := zOk (zVm l D B O) ∧ zTh (zVm l D B O)
theorem Z.objInit {V : zV} {M : zM} {fr : Nat} {Q : Option Value → zH → Prop} {QX : String → zH → Prop} {mc ms pc : Nat} {L : zLs} {st : List Value} {G : zH} {a idx : Nat} (hlk : Cond.methodLink M.1.cls idx Lib.objectInit ∈ zT) (hin : Cond.instanceMethod Lib.objectInit ∈ zT) (hcw : Cond.code Lib.objectInit ⟨#[0xb1]⟩ 1 none ∈ zT) (hfr : 1 ≤ fr) (hLl : L.length = M.2.2.1) (hcat : (st.map fun v => v.category).sum ≤ 8) (hd : decode M.2.1 pc = .ok (.invokespecial idx, 3)) (k : Z V M fr Q QX mc ms (pc + 3) L st G) : Z V M fr Q QX mc ms pc L (.ref a :: st) G := by
  intro p e R s m args below meth c H locs cells slots CT ST ls C h1 h2 h3 h4 h5 h6 hS hR hl
  have hts := C.2.2.2.2.2.2.2.1
  have hsz : ls.size = c.maxLocals := (hl.1.trans hLl).trans C.2.2.1.symm
  exact W.objInit C.1 C.2.1 C.2.2.2.2.2.1 (hts _ hlk) (hts _ hin) (hts _ hcw) rfl hsz rfl hd (by omega) (by show 2 * 0 + _ + 12 ≤ R.locals; omega) (k p e R s m args below meth c H locs cells slots CT ST ls C h1 h2 h3 h4 h5 h6 hS hR hl)
theorem Z.ldc {V : zV} {M : zM} {fr : Nat} {Q : Option Value → zH → Prop} {QX : String → zH → Prop} {mc ms pc : Nat} {L : zLs} {st : List Value} {G : zH} {idx : Nat} {v : Int32} (hw : Cond.constant M.1.cls idx v ∈ zT) (hd : decode M.2.1 pc = .ok (.ldc idx, 2)) (k : Z V M fr Q QX mc ms (pc + 2) L (.int v :: st) G) : Z V M fr Q QX mc ms pc L st G := by
  intro p e R s m args below meth c H locs cells slots CT ST ls C h1 h2 h3 h4 h5 h6 hS hR hl
  exact lv_ldc C.1 C.2.1 C.2.2.2.2.2.1 (C.2.2.2.2.2.2.2.1 _ hw) hd (k p e R s m args below meth c H locs cells slots CT ST ls C h1 h2 h3 h4 h5 h6 hS hR hl)
theorem Z.ldcw {V : zV} {M : zM} {fr : Nat} {Q : Option Value → zH → Prop} {QX : String → zH → Prop} {mc ms pc : Nat} {L : zLs} {st : List Value} {G : zH} {idx : Nat} {v : Int32} (hw : Cond.constant M.1.cls idx v ∈ zT) (hd : decode M.2.1 pc = .ok (.ldc_w idx, 3)) (k : Z V M fr Q QX mc ms (pc + 3) L (.int v :: st) G) : Z V M fr Q QX mc ms pc L st G := by
  intro p e R s m args below meth c H locs cells slots CT ST ls C h1 h2 h3 h4 h5 h6 hS hR hl
  exact lv_ldcw C.1 C.2.1 C.2.2.2.2.2.1 (C.2.2.2.2.2.2.2.1 _ hw) hd (k p e R s m args below meth c H locs cells slots CT ST ls C h1 h2 h3 h4 h5 h6 hS hR hl)
theorem Z.ldc2 {V : zV} {M : zM} {fr : Nat} {Q : Option Value → zH → Prop} {QX : String → zH → Prop} {mc ms pc : Nat} {L : zLs} {st : List Value} {G : zH} {idx : Nat} {v : Int64} (hw : Cond.constantLong M.1.cls idx v ∈ zT) (hd : decode M.2.1 pc = .ok (.ldc2_w idx, 3)) (k : Z V M fr Q QX mc ms (pc + 3) L (.long v :: st) G) : Z V M fr Q QX mc ms pc L st G := by
  intro p e R s m args below meth c H locs cells slots CT ST ls C h1 h2 h3 h4 h5 h6 hS hR hl
  exact lv_ldc2 C.1 C.2.1 C.2.2.2.2.2.1 (C.2.2.2.2.2.2.2.1 _ hw) hd (k p e R s m args below meth c H locs cells slots CT ST ls C h1 h2 h3 h4 h5 h6 hS hR hl)
theorem Y.objInit {V : zV} {M : zM} {fr : Nat} {o : gO} {Gf : gH} {pc : Nat} {L : zLs} {st : List Value} {G : gH} {a idx : Nat} (hlk : Cond.methodLink M.1.cls idx Lib.objectInit ∈ zT) (hin : Cond.instanceMethod Lib.objectInit ∈ zT) (hcw : Cond.code Lib.objectInit ⟨#[0xb1]⟩ 1 none ∈ zT) (hfr : 1 ≤ fr) (hLl : L.length = M.2.2.1) (hcat : (st.map fun v => v.category).sum ≤ 8) (hd : decode M.2.1 pc = .ok (.invokespecial idx, 3)) (k : Y V M fr o Gf (pc + 3) L st G) : Y V M fr o Gf pc L (.ref a :: st) G := by
  exact ⟨k.1, Z.objInit hlk hin hcw hfr hLl hcat hd k.2⟩
theorem Y.ldc {V : zV} {M : zM} {fr : Nat} {o : gO} {Gf : gH} {pc : Nat} {L : zLs} {st : List Value} {G : gH} {idx : Nat} {v : Int32} (hw : Cond.constant M.1.cls idx v ∈ zT) (hd : decode M.2.1 pc = .ok (.ldc idx, 2)) (k : Y V M fr o Gf (pc + 2) L (.int v :: st) G) : Y V M fr o Gf pc L st G := by
  exact ⟨k.1, Z.ldc hw hd k.2⟩
theorem Y.ldcw {V : zV} {M : zM} {fr : Nat} {o : gO} {Gf : gH} {pc : Nat} {L : zLs} {st : List Value} {G : gH} {idx : Nat} {v : Int32} (hw : Cond.constant M.1.cls idx v ∈ zT) (hd : decode M.2.1 pc = .ok (.ldc_w idx, 3)) (k : Y V M fr o Gf (pc + 3) L (.int v :: st) G) : Y V M fr o Gf pc L st G := by
  exact ⟨k.1, Z.ldcw hw hd k.2⟩
theorem Y.ldc2 {V : zV} {M : zM} {fr : Nat} {o : gO} {Gf : gH} {pc : Nat} {L : zLs} {st : List Value} {G : gH} {idx : Nat} {v : Int64} (hw : Cond.constantLong M.1.cls idx v ∈ zT) (hd : decode M.2.1 pc = .ok (.ldc2_w idx, 3)) (k : Y V M fr o Gf (pc + 3) L (.long v :: st) G) : Y V M fr o Gf pc L st G := by
  exact ⟨k.1, Z.ldc2 hw hd k.2⟩
theorem Y.swC {V : zV} {M : zM} {fr : Nat} {o : gO} {Gf : gH} {pc : Nat} {L : zLs} {st : List Value} {G : gH} {j dflt lo hi : Int} {offs : Array Int} {len : Nat} {x : Int32} {off : Int} {tgt : Nat} {A Bc : gR} (hd : decode M.2.1 pc = .ok (.tableswitch dflt lo hi offs, len)) (hr : lo ≤ j ∧ j ≤ hi) (ho : offs[(j - lo).toNat]? = some off) (ht : (pc : Int) + off = (tgt : Int)) (h : (if x.toInt = j then A else Bc) = some (o, Gf)) (ka : x.toInt = j → A = some (o, Gf) → Y V M fr o Gf tgt L st G) (kb : ¬ x.toInt = j → Bc = some (o, Gf) → Y V M fr o Gf pc L (.int x :: st) G) : Y V M fr o Gf pc L (.int x :: st) G := by
  by_cases hj : x.toInt = j
  · rw [if_pos hj] at h
    have k := ka hj h
    exact ⟨k.1, Z.swIn hd (by omega) (by omega) (by rw [hj]; exact ho) ht k.2⟩
  · rw [if_neg hj] at h
    exact kb hj h
theorem cw_OJ_init : Cond.code Lib.objectInit ⟨#[0xb1]⟩ 1 none ∈ zT := zU1 38 (by decide +kernel) rfl
theorem co_IN_265 : Cond.constant "java/lang/Integer" 265 (nI 1431655765) ∈ zT := zU1 211 (by decide +kernel) rfl
theorem co_IN_266 : Cond.constant "java/lang/Integer" 266 (nI 858993459) ∈ zT := zU1 212 (by decide +kernel) rfl
theorem co_IN_267 : Cond.constant "java/lang/Integer" 267 (nI 252645135) ∈ zT := zU1 213 (by decide +kernel) rfl
theorem co_X_261 : Cond.constantLong "Partlister" 261 (lN 2203) ∈ zT := zU1 222 (by decide +kernel) rfl
theorem co_X_321 : Cond.constantLong "Partlister" 321 (lN 31) ∈ zT := zU2 19 (by decide +kernel) rfl
theorem co_U6_20 : Cond.constant "java/lang/StringUTF16" 20 (nI 1073741823) ∈ zT := zU5 6 (by decide +kernel) rfl
theorem co_AS_200 : Cond.constant "jdk/internal/util/ArraysSupport" 200 (nI 2147483639) ∈ zT := zU5 41 (by decide +kernel) rfl
theorem co_AB_39 : Cond.constant "java/lang/AbstractStringBuilder" 39 (nI 2147483647) ∈ zT := zU5 45 (by decide +kernel) rfl
theorem co_M_305 : Cond.constantLong "PartlisterModel" 305 (lN 2203) ∈ zT := zU8 169 (by decide +kernel) rfl
theorem co_M_303 : Cond.constantLong "PartlisterModel" 303 (lN 31) ∈ zT := zU8 173 (by decide +kernel) rfl
theorem fm_mem {T : List Cond} {is : List Nat} {w : Cond} (h : w ∈ is.filterMap (fun i => T[i]?)) : w ∈ T := by
  obtain ⟨i, -, h2⟩ := List.mem_filterMap.mp h
  exact List.mem_of_getElem? h2
def S9 : List Cond := ([14, 15, 16, 17, 18, 19, 37, 38] : List Nat).filterMap (fun i => tables_1_1[i]?) ++ (([122, 123, 124, 133, 134, 135, 136, 137, 138, 139, 140, 141, 142, 143, 144, 145, 146, 147, 148, 149, 150, 151, 152, 153, 154, 155, 156, 157, 158, 159, 160, 161, 162, 163, 164, 165, 166, 167, 168, 169, 170, 171, 172, 173, 175, 176, 177, 178, 179, 180, 181, 182, 183, 184, 185, 186, 187, 188, 189, 190, 191, 192, 193, 194, 195, 196, 197, 198, 199, 205, 206, 207, 208, 209, 210, 211, 212, 213, 215, 216, 217, 218, 219, 220, 226, 227, 228, 229, 230, 231, 232, 233, 234, 236, 237, 238, 239] : List Nat).filterMap (fun i => tables_1_2[i]?) ++ (([0, 1] : List Nat).filterMap (fun i => tables_1_3[i]?) ++ (([185] : List Nat).filterMap (fun i => tables_1_5[i]?) ++ (([106, 107, 108, 224] : List Nat).filterMap (fun i => tables_1_6[i]?) ++ (([175] : List Nat).filterMap (fun i => tables_1_8[i]?))))))
theorem S9_sub (w : Cond) (h : w ∈ S9) : w ∈ tables_1 := by
  rcases List.mem_append.mp h with h | h
  · exact tu1 _ (fm_mem h)
  rcases List.mem_append.mp h with h | h
  · exact tu2 _ (fm_mem h)
  rcases List.mem_append.mp h with h | h
  · exact tu3 _ (fm_mem h)
  rcases List.mem_append.mp h with h | h
  · exact tu5 _ (fm_mem h)
  rcases List.mem_append.mp h with h | h
  · exact tu6 _ (fm_mem h)
  exact tu8 _ (fm_mem h)
theorem tw_X_129 : ∀ w ∈ vx_atS "Partlister" 129 "java/lang/IndexOutOfBoundsException" zNm, w ∈ zT := fun w hw => zT_of (List.mem_append_right _ (S9_sub w ((by decide +kernel : ∀ w ∈ vx_atS "Partlister" 129 "java/lang/IndexOutOfBoundsException" zNm, w ∈ S9) w hw))) ((by decide +kernel : ∀ w ∈ vx_atS "Partlister" 129 "java/lang/IndexOutOfBoundsException" zNm, zGood w = true) w hw)
theorem tg_X_129 : ∀ w ∈ Cond.classLink "Partlister" 125 "java/lang/IndexOutOfBoundsException" :: Cond.initialized "java/lang/IndexOutOfBoundsException" :: vx_atS "Partlister" 129 "java/lang/IndexOutOfBoundsException" zNm, vx_ot w = true := by decide +kernel
theorem tw_X_85 : ∀ w ∈ vx_atS "Partlister" 85 "java/lang/IllegalArgumentException" zNm, w ∈ zT := fun w hw => zT_of (List.mem_append_right _ (S9_sub w ((by decide +kernel : ∀ w ∈ vx_atS "Partlister" 85 "java/lang/IllegalArgumentException" zNm, w ∈ S9) w hw))) ((by decide +kernel : ∀ w ∈ vx_atS "Partlister" 85 "java/lang/IllegalArgumentException" zNm, zGood w = true) w hw)
theorem tg_X_85 : ∀ w ∈ Cond.classLink "Partlister" 81 "java/lang/IllegalArgumentException" :: Cond.initialized "java/lang/IllegalArgumentException" :: vx_atS "Partlister" 85 "java/lang/IllegalArgumentException" zNm, vx_ot w = true := by decide +kernel
theorem tw_X_138 : ∀ w ∈ vx_atS "Partlister" 138 "java/lang/IllegalStateException" zNm, w ∈ zT := fun w hw => zT_of (List.mem_append_right _ (S9_sub w ((by decide +kernel : ∀ w ∈ vx_atS "Partlister" 138 "java/lang/IllegalStateException" zNm, w ∈ S9) w hw))) ((by decide +kernel : ∀ w ∈ vx_atS "Partlister" 138 "java/lang/IllegalStateException" zNm, zGood w = true) w hw)
theorem tg_X_138 : ∀ w ∈ Cond.classLink "Partlister" 134 "java/lang/IllegalStateException" :: Cond.initialized "java/lang/IllegalStateException" :: vx_atS "Partlister" 138 "java/lang/IllegalStateException" zNm, vx_ot w = true := by decide +kernel
theorem Z.throwSW {V : zV} {M : zM} {fr : Nat} {Q : Option Value → zH → Prop} {QX : String → zH → Prop} {mc ms pc : Nat} {L : zLs} {st : List Value} {G : zH} {cls text : String} {names : List String} {ik is ic : Nat} (hV : zOk V) (hO : ∀ (U : State) (H : Heap), V.2.2.2.2.2 U H → vx_Zq Bundle.tN "UNASSIGNED_STACK" Bundle.steD (zA V) U H ∧ vx_Zq Bundle.tN "SUPPRESSED_SENTINEL" Bundle.listD (zA V) U H ∧ ∃ sa : Nat, vk_R M.1.cls is text sa U)
    (hcls : Bundle.fit cls = true) (hnames : ∀ n ∈ names, Bundle.fit n = true) (w1 : Cond.classLink M.1.cls ik cls ∈ zT) (w2 : Cond.initialized cls ∈ zT) (w3 : ∀ w ∈ vx_atS M.1.cls ic cls names, w ∈ zT) (hgood : ∀ w ∈ Cond.classLink M.1.cls ik cls :: Cond.initialized cls :: vx_atS M.1.cls ic cls names, vx_ot w = true)
    (hn : names.length ≤ 2) (hfr : 6 ≤ fr) (hLl : L.length = M.2.2.1) (hcat : (st.map fun v => v.category).sum ≤ 8)
    (d0 : decode M.2.1 pc = .ok (.new ik, 3)) (d3 : decode M.2.1 (pc + 3) = .ok (.dup, 1)) (d4 : decode M.2.1 (pc + 4) = .ok (.ldc_w is, 3)) (d6 : decode M.2.1 (pc + 7) = .ok (.invokespecial ic, 3)) (d9 : decode M.2.1 (pc + 10) = .ok (.athrow, 1))
    (hq : ∀ n : Nat, G.1 ≤ n → QX cls (n, G.2)) : Z V M fr Q QX (mc + 1) (ms + 6) pc L st G := by
  intro p e R s m args below meth c H locs cells slots CT ST ls C h1 h2 h3 h4 h5 h6 hS hR hl
  have hts := C.2.2.2.2.2.2.2.1
  obtain ⟨o1, o2, sa, o3⟩ := hO s s.heap C.2.2.2.2.2.2.2.2.2.1
  have hsz : ls.size = c.maxLocals := (hl.1.trans hLl).trans C.2.2.1.symm
  refine vx_throwSW C.1 C.2.1 hV.1 C.2.2.2.2.2.1 hcls hnames (hts _ w1) (hts _ w2) o3 (fun w hw => hts w (w3 w hw)) hgood o1 o2 hS hsz d0 d3 d4 d6 d9 (fun x h => (C.2.2.2.2.2.2.2.2.2.2.2 x h).elim) (by omega) (by omega) (by omega) (by omega) C.2.2.2.2.1 ?_ hS.2.2 (by omega) (by omega)
  intro t _ hz ho
  have hsR := hR.1
  refine ⟨(t.heap.size, G.2), hq _ (by omega), ⟨rfl, fun a e9 he => ⟨(hR.2 a e9 he).1, (hR.2 a e9 he).2.kept (ho a (hR.2 a e9 he).2.lt)⟩⟩, Nat.le_trans hS.1 hz, fun q g1 g2 => (ho q (Nat.lt_of_lt_of_le g1 hS.1)).trans (hS.2.1 q g1 g2)⟩
theorem Y.throwSW {V : zV} {M : zM} {fr : Nat} {o : gO} {Gf : gH} {pc : Nat} {L : zLs} {st : List Value} {G : gH} {cls text : String} {names : List String} {ik is ic : Nat} (hV : zOk V) (hO : ∀ (U : State) (H : Heap), V.2.2.2.2.2 U H → vx_Zq Bundle.tN "UNASSIGNED_STACK" Bundle.steD (zA V) U H ∧ vx_Zq Bundle.tN "SUPPRESSED_SENTINEL" Bundle.listD (zA V) U H ∧ ∃ sa : Nat, vk_R M.1.cls is text sa U)
    (hcls : Bundle.fit cls = true) (hnames : ∀ n ∈ names, Bundle.fit n = true) (w1 : Cond.classLink M.1.cls ik cls ∈ zT) (w2 : Cond.initialized cls ∈ zT) (w3 : ∀ w ∈ vx_atS M.1.cls ic cls names, w ∈ zT) (hgood : ∀ w ∈ Cond.classLink M.1.cls ik cls :: Cond.initialized cls :: vx_atS M.1.cls ic cls names, vx_ot w = true)
    (hn : names.length ≤ 2) (hfr : 6 ≤ fr) (hLl : L.length = M.2.2.1) (hcat : (st.map fun v => v.category).sum ≤ 8)
    (d0 : decode M.2.1 pc = .ok (.new ik, 3)) (d3 : decode M.2.1 (pc + 3) = .ok (.dup, 1)) (d4 : decode M.2.1 (pc + 4) = .ok (.ldc_w is, 3)) (d6 : decode M.2.1 (pc + 7) = .ok (.invokespecial ic, 3)) (d9 : decode M.2.1 (pc + 10) = .ok (.athrow, 1))
    (h : gThrow cls G = some (o, Gf)) : Y V M fr o Gf pc L st G := by
  obtain ⟨rfl, rfl⟩ := Prod.mk.inj (Option.some.inj h)
  refine ⟨⟨Nat.le_add_right _ _, Nat.le_add_right _ _⟩, ?_⟩
  have k7 := Z.throwSW (V := V) (M := M) (fr := fr) (Q := gQ (.inl cls) (G.1 + 6, (G.2.1 + 1, G.2.2))) (QX := gX (.inl cls) (G.1 + 6, (G.2.1 + 1, G.2.2))) (mc := 0) (ms := 0) (pc := pc) (L := L) (st := st) (G := G.2) hV hO hcls hnames w1 w2 w3 hgood hn hfr hLl hcat d0 d3 d4 d6 d9 (fun n hn9 => ⟨rfl, Nat.add_le_add_right hn9 1, rfl⟩)
  rw [show (G.2.1 + 1) - G.2.1 = 0 + 1 by omega, show (G.1 + 6) - G.1 = 0 + 6 by omega]
  exact k7
end
section
def gElt (G : gH) (y : Nat) : Bool := match G.2.2 y with
  | some (.inr (c, _)) => c % 1000 == 9
  | some (.inl (c, _)) => c % 1000 == 100
  | none => false
def gEltO (G : gH) (y : Option Nat) : Bool := match y with
  | none => true
  | some y => gElt G y
def gBnd (sp dp n : Int32) (n0 n1 : Nat) : Bool := decide (¬ sp < 0) && decide (¬ dp < 0) && decide (¬ n < 0) && decide (sp.toNatClampNeg + n.toNatClampNeg ≤ n0) && decide (dp.toNatClampNeg + n.toNatClampNeg ≤ n1)
theorem gBnd_of {sp dp n : Int32} {n0 n1 : Nat} (h : gBnd sp dp n n0 n1 = true) : ¬ sp < 0 ∧ ¬ dp < 0 ∧ ¬ n < 0 ∧ sp.toNatClampNeg + n.toNatClampNeg ≤ n0 ∧ dp.toNatClampNeg + n.toNatClampNeg ≤ n1 := by
  simp only [gBnd, Bool.and_eq_true, decide_eq_true_eq] at h
  exact ⟨h.1.1.1.1, h.1.1.1.2, h.1.1.2, h.1.2, h.2⟩
def gCpB (G : gH) (a0 : Nat) (sp : Int32) (a1 : Nat) (dp n : Int32) (k : gH → gR) : gR := gAr G a0 101 fun n0 f => gArW G a1 101 fun n1 g =>
  if gBnd sp dp n n0 n1 = true ∧ ((List.range n.toNatClampNeg).all fun i => fits .byte (.int (f (sp.toNatClampNeg + i)))) = true then k (gUp G a1 (zI 101 n1 (va_cpy f g sp.toNatClampNeg dp.toNatClampNeg n.toNatClampNeg))) else none
def gCpQ (G : gH) (a0 : Nat) (sp : Int32) (a1 : Nat) (dp n : Int32) (k : gH → gR) : gR := gAq G a0 103 fun n0 f => gAqW G a1 103 fun n1 g =>
  if gBnd sp dp n n0 n1 = true ∧ ((List.range n.toNatClampNeg).all fun i => gEltO G (f (sp.toNatClampNeg + i))) = true then k (gUp G a1 (zQ 103 n1 (va_cpy f g sp.toNatClampNeg dp.toNatClampNeg n.toNatClampNeg))) else none
def gClB (G : gH) (a : Nat) (k : Nat → gH → gR) : gR := gArW G a 101 fun n f => if ((List.range n).all fun i => fits .byte (.int (f i))) = true then k G.2.1 (gNew G n (zI 101 n f)) else none
theorem Z.ac_eq {V : zV} {M : zM} {fr : Nat} {Q : Option Value → zH → Prop} {QX : String → zH → Prop} {mc ms pc : Nat} {L : zLs} {st : List Value} {G : zH} {x y : Nat} {off : Int} {tgt : Nat} (hd : decode M.2.1 pc = .ok (.if_acmp .eq off, 3)) (ht : (pc : Int) + off = (tgt : Int)) (ka : x = y → Z V M fr Q QX mc ms tgt L st G) (kb : ¬ x = y → Z V M fr Q QX mc ms (pc + 3) L st G) : Z V M fr Q QX mc ms pc L (.ref y :: .ref x :: st) G := by
  intro p e R s m args below meth c H locs cells slots CT ST ls C h1 h2 h3 h4 h5 h6 hS hR hl
  exact lv_acmp_eq (rx := some x) (ry := some y) C.1 C.2.1 hd ht (fun q => (ka (Option.some.inj q)) p e R s m args below meth c H locs cells slots CT ST ls C h1 h2 h3 h4 h5 h6 hS hR hl) (fun q => (kb (fun z => q (congrArg some z))) p e R s m args below meth c H locs cells slots CT ST ls C h1 h2 h3 h4 h5 h6 hS hR hl)
theorem Y.ac_eq {V : zV} {M : zM} {fr : Nat} {o : gO} {Gf : gH} {pc : Nat} {L : zLs} {st : List Value} {G : gH} {x y : Nat} {off : Int} {tgt : Nat} {A B : gR} (hd : decode M.2.1 pc = .ok (.if_acmp .eq off, 3)) (ht : (pc : Int) + off = (tgt : Int)) (h : (if x = y then A else B) = some (o, Gf)) (ka : x = y → A = some (o, Gf) → Y V M fr o Gf tgt L st G) (kb : ¬ x = y → B = some (o, Gf) → Y V M fr o Gf (pc + 3) L st G) : Y V M fr o Gf pc L (.ref y :: .ref x :: st) G := by
  by_cases hP : x = y
  · rw [if_pos hP] at h
    have k := ka hP h
    exact ⟨k.1, Z.ac_eq hd ht (fun _ => k.2) (fun q => absurd hP q)⟩
  · rw [if_neg hP] at h
    have k := kb hP h
    exact ⟨k.1, Z.ac_eq hd ht (fun q => absurd q hP) (fun _ => k.2)⟩
theorem Z.ac_ne {V : zV} {M : zM} {fr : Nat} {Q : Option Value → zH → Prop} {QX : String → zH → Prop} {mc ms pc : Nat} {L : zLs} {st : List Value} {G : zH} {x y : Nat} {off : Int} {tgt : Nat} (hd : decode M.2.1 pc = .ok (.if_acmp .ne off, 3)) (ht : (pc : Int) + off = (tgt : Int)) (ka : x = y → Z V M fr Q QX mc ms (pc + 3) L st G) (kb : ¬ x = y → Z V M fr Q QX mc ms tgt L st G) : Z V M fr Q QX mc ms pc L (.ref y :: .ref x :: st) G := by
  intro p e R s m args below meth c H locs cells slots CT ST ls C h1 h2 h3 h4 h5 h6 hS hR hl
  exact lv_acmp_ne (rx := some x) (ry := some y) C.1 C.2.1 hd ht (fun q => (kb (fun z => q (congrArg some z))) p e R s m args below meth c H locs cells slots CT ST ls C h1 h2 h3 h4 h5 h6 hS hR hl) (fun q => (ka (Option.some.inj q)) p e R s m args below meth c H locs cells slots CT ST ls C h1 h2 h3 h4 h5 h6 hS hR hl)
theorem Y.ac_ne {V : zV} {M : zM} {fr : Nat} {o : gO} {Gf : gH} {pc : Nat} {L : zLs} {st : List Value} {G : gH} {x y : Nat} {off : Int} {tgt : Nat} {A B : gR} (hd : decode M.2.1 pc = .ok (.if_acmp .ne off, 3)) (ht : (pc : Int) + off = (tgt : Int)) (h : (if x = y then A else B) = some (o, Gf)) (ka : x = y → A = some (o, Gf) → Y V M fr o Gf (pc + 3) L st G) (kb : ¬ x = y → B = some (o, Gf) → Y V M fr o Gf tgt L st G) : Y V M fr o Gf pc L (.ref y :: .ref x :: st) G := by
  by_cases hP : x = y
  · rw [if_pos hP] at h
    have k := ka hP h
    exact ⟨k.1, Z.ac_ne hd ht (fun _ => k.2) (fun q => absurd hP q)⟩
  · rw [if_neg hP] at h
    have k := kb hP h
    exact ⟨k.1, Z.ac_ne hd ht (fun q => absurd q hP) (fun _ => k.2)⟩
theorem Z.gets {V : zV} {M : zM} {fr : Nat} {Q : Option Value → zH → Prop} {QX : String → zH → Prop} {mc ms pc : Nat} {L : zLs} {st : List Value} {G : zH} {C1 n d : String} {idx : Nat} {v : Value} (hO : ∀ (U : State) (H : Heap), V.2.2.2.2.2 U H → va_Z C1 n d v (zA V) U H) (hlk : Cond.fieldLink M.1.cls idx C1 n d ∈ zT) (hd : decode M.2.1 pc = .ok (.getstatic idx, 3)) (k : Z V M fr Q QX mc ms (pc + 3) L (v :: st) G) : Z V M fr Q QX mc ms pc L st G := by
  intro p e R s m args below meth c H locs cells slots CT ST ls C h1 h2 h3 h4 h5 h6 hS hR hl
  have hts := C.2.2.2.2.2.2.2.1
  have hK : va_K V.2.1 V.2.2.1 (zTy V.2.1 V.2.2.2.1) s := C.2.2.2.2.2.2.2.2.1
  exact va_gets C.1 C.2.1 (hO s s.heap C.2.2.2.2.2.2.2.2.2.1) hS C.2.2.2.2.2.1 (hts _ hlk) (fun x h => h) hd (k p e R s m args below meth c H locs cells slots CT ST ls C h1 h2 h3 h4 h5 h6 hS hR hl)
theorem Y.gets {V : zV} {M : zM} {fr : Nat} {o : gO} {Gf : gH} {pc : Nat} {L : zLs} {st : List Value} {G : gH} {C1 n d : String} {idx : Nat} {v : Value} (hO : ∀ (U : State) (H : Heap), V.2.2.2.2.2 U H → va_Z C1 n d v (zA V) U H) (hlk : Cond.fieldLink M.1.cls idx C1 n d ∈ zT) (hd : decode M.2.1 pc = .ok (.getstatic idx, 3)) (k : Y V M fr o Gf (pc + 3) L (v :: st) G) : Y V M fr o Gf pc L st G := by
  exact ⟨k.1, Z.gets hO hlk hd k.2⟩
theorem Z.ldcS {V : zV} {M : zM} {fr : Nat} {Q : Option Value → zH → Prop} {QX : String → zH → Prop} {mc ms pc : Nat} {L : zLs} {st : List Value} {G : zH} {tx : String} {idx q : Nat} (hO : ∀ (U : State) (H : Heap), V.2.2.2.2.2 U H → vk_R M.1.cls idx tx q U) (hd : decode M.2.1 pc = .ok (.ldc idx, 2)) (k : Z V M fr Q QX mc ms (pc + 2) L (.ref q :: st) G) : Z V M fr Q QX mc ms pc L st G := by
  intro p e R s m args below meth c H locs cells slots CT ST ls C h1 h2 h3 h4 h5 h6 hS hR hl
  have hts := C.2.2.2.2.2.2.2.1
  have hK : va_K V.2.1 V.2.2.1 (zTy V.2.1 V.2.2.2.1) s := C.2.2.2.2.2.2.2.2.1
  exact va_ldcS C.1 C.2.1 C.2.2.2.2.2.1 (hO s s.heap C.2.2.2.2.2.2.2.2.2.1) hd (k p e R s m args below meth c H locs cells slots CT ST ls C h1 h2 h3 h4 h5 h6 hS hR hl)
theorem Y.ldcS {V : zV} {M : zM} {fr : Nat} {o : gO} {Gf : gH} {pc : Nat} {L : zLs} {st : List Value} {G : gH} {tx : String} {idx q : Nat} (hO : ∀ (U : State) (H : Heap), V.2.2.2.2.2 U H → vk_R M.1.cls idx tx q U) (hd : decode M.2.1 pc = .ok (.ldc idx, 2)) (k : Y V M fr o Gf (pc + 2) L (.ref q :: st) G) : Y V M fr o Gf pc L st G := by
  exact ⟨k.1, Z.ldcS hO hd k.2⟩
theorem Z.ldcSW {V : zV} {M : zM} {fr : Nat} {Q : Option Value → zH → Prop} {QX : String → zH → Prop} {mc ms pc : Nat} {L : zLs} {st : List Value} {G : zH} {tx : String} {idx q : Nat} (hO : ∀ (U : State) (H : Heap), V.2.2.2.2.2 U H → vk_R M.1.cls idx tx q U) (hd : decode M.2.1 pc = .ok (.ldc_w idx, 3)) (k : Z V M fr Q QX mc ms (pc + 3) L (.ref q :: st) G) : Z V M fr Q QX mc ms pc L st G := by
  intro p e R s m args below meth c H locs cells slots CT ST ls C h1 h2 h3 h4 h5 h6 hS hR hl
  have hts := C.2.2.2.2.2.2.2.1
  have hK : va_K V.2.1 V.2.2.1 (zTy V.2.1 V.2.2.2.1) s := C.2.2.2.2.2.2.2.2.1
  have hZ := hO s s.heap C.2.2.2.2.2.2.2.2.2.1
  intro T hT X
  obtain ⟨t, a1, b1⟩ := (k p e R s m args below meth c H locs cells slots CT ST ls C h1 h2 h3 h4 h5 h6 hS hR hl) T hT X
  exact ⟨t, X.ldcStringW C.1 C.2.2.2.2.2.1 (text := tx) (a := q) hZ.1 hZ.2 (g := F0 m pc ls st) rfl (by rw [C.2.1]; exact hd) t a1, b1⟩
theorem Y.ldcSW {V : zV} {M : zM} {fr : Nat} {o : gO} {Gf : gH} {pc : Nat} {L : zLs} {st : List Value} {G : gH} {tx : String} {idx q : Nat} (hO : ∀ (U : State) (H : Heap), V.2.2.2.2.2 U H → vk_R M.1.cls idx tx q U) (hd : decode M.2.1 pc = .ok (.ldc_w idx, 3)) (k : Y V M fr o Gf (pc + 3) L (.ref q :: st) G) : Y V M fr o Gf pc L st G := by
  exact ⟨k.1, Z.ldcSW hO hd k.2⟩
theorem Z.ldcM {V : zV} {M : zM} {fr : Nat} {Q : Option Value → zH → Prop} {QX : String → zH → Prop} {mc ms pc : Nat} {L : zLs} {st : List Value} {G : zH} {C1 : String} {idx mi : Nat} (hO : ∀ (U : State) (H : Heap), V.2.2.2.2.2 U H → va_Mi C1 mi U) (hlk : Cond.classLink M.1.cls idx C1 ∈ zT) (hd : decode M.2.1 pc = .ok (.ldc idx, 2)) (k : Z V M fr Q QX mc ms (pc + 2) L (.ref mi :: st) G) : Z V M fr Q QX mc ms pc L st G := by
  intro p e R s m args below meth c H locs cells slots CT ST ls C h1 h2 h3 h4 h5 h6 hS hR hl
  have hts := C.2.2.2.2.2.2.2.1
  have hK : va_K V.2.1 V.2.2.1 (zTy V.2.1 V.2.2.2.1) s := C.2.2.2.2.2.2.2.2.1
  exact va_ldcM C.1 C.2.1 C.2.2.2.2.2.1 (hts _ hlk) (hO s s.heap C.2.2.2.2.2.2.2.2.2.1) hd (k p e R s m args below meth c H locs cells slots CT ST ls C h1 h2 h3 h4 h5 h6 hS hR hl)
theorem Y.ldcM {V : zV} {M : zM} {fr : Nat} {o : gO} {Gf : gH} {pc : Nat} {L : zLs} {st : List Value} {G : gH} {C1 : String} {idx mi : Nat} (hO : ∀ (U : State) (H : Heap), V.2.2.2.2.2 U H → va_Mi C1 mi U) (hlk : Cond.classLink M.1.cls idx C1 ∈ zT) (hd : decode M.2.1 pc = .ok (.ldc idx, 2)) (k : Y V M fr o Gf (pc + 2) L (.ref mi :: st) G) : Y V M fr o Gf pc L st G := by
  exact ⟨k.1, Z.ldcM hO hlk hd k.2⟩
theorem Z.getC {V : zV} {M : zM} {fr : Nat} {Q : Option Value → zH → Prop} {QX : String → zH → Prop} {mc ms pc : Nat} {L : zLs} {st : List Value} {G : zH} {a c0 ka t0 idx mi : Nat} {nm : String} {ty : FieldType} {x : vp_A} (hO : ∀ (U : State) (H : Heap), V.2.2.2.2.2 U H → va_Mi nm mi U) (ht : V.2.2.2.1[t0]? = some (ka, ty)) (hnm : "[" ++ ty.toString = nm) (hG : G.2 a = some (.inl (c0, x))) (hcm : c0 % 1000 = ka)
    (hlk : Cond.methodLink M.1.cls idx ⟨"java/lang/Object", "getClass", "()Ljava/lang/Class;"⟩ ∈ zT) (w1 : Cond.declares ⟨"java/lang/Object", "getClass", "()Ljava/lang/Class;"⟩ ∈ zT) (w2 : Cond.selects nm ⟨"java/lang/Object", "getClass", "()Ljava/lang/Class;"⟩ ⟨"java/lang/Object", "getClass", "()Ljava/lang/Class;"⟩ ∈ zT) (w3 : Cond.instanceMethod ⟨"java/lang/Object", "getClass", "()Ljava/lang/Class;"⟩ ∈ zT) (w4 : Cond.native ⟨"java/lang/Object", "getClass", "()Ljava/lang/Class;"⟩ ∈ zT)
    (hfr : 1 ≤ fr) (hLl : L.length = M.2.2.1) (hcat : (st.map fun v => v.category).sum ≤ 8) (hd : decode M.2.1 pc = .ok (.invokevirtual idx, 3)) (k : Z V M fr Q QX mc ms (pc + 3) L (.ref mi :: st) G) : Z V M fr Q QX mc ms pc L (.ref a :: st) G := by
  intro p e R s m args below meth c H locs cells slots CT ST ls C h1 h2 h3 h4 h5 h6 hS hR hl
  have hts := C.2.2.2.2.2.2.2.1
  have hK : va_K V.2.1 V.2.2.1 (zTy V.2.1 V.2.2.2.1) s := C.2.2.2.2.2.2.2.2.1
  subst hcm
  obtain ⟨-, cell, g1, g2, g3, g4, g5, -⟩ := hR.2 a _ hG
  have hfA := zArrName hK ht
  rw [hnm] at hfA
  have hsz : c.maxLocals = ls.size := C.2.2.1.trans (hl.1.trans hLl).symm
  exact va_getC C.1 C.2.1 hsz C.2.2.2.2.2.1 (hts _ hlk) (hts _ w1) (hts _ w2) (hts _ w3) (hts _ w4) (hO s s.heap C.2.2.2.2.2.2.2.2.2.1) ⟨cell, g1, g5, by rw [g2]; exact hfA⟩ (by omega) (by omega) hd (k p e R s m args below meth c H locs cells slots CT ST ls C h1 h2 h3 h4 h5 h6 hS hR hl)
theorem Y.getC {V : zV} {M : zM} {fr : Nat} {o : gO} {Gf : gH} {pc : Nat} {L : zLs} {st : List Value} {G : gH} {a ka t0 idx mi : Nat} {nm : String} {ty : FieldType} {k : gR} (hO : ∀ (U : State) (H : Heap), V.2.2.2.2.2 U H → va_Mi nm mi U) (ht : V.2.2.2.1[t0]? = some (ka, ty)) (hnm : "[" ++ ty.toString = nm)
    (hlk : Cond.methodLink M.1.cls idx ⟨"java/lang/Object", "getClass", "()Ljava/lang/Class;"⟩ ∈ zT) (w1 : Cond.declares ⟨"java/lang/Object", "getClass", "()Ljava/lang/Class;"⟩ ∈ zT) (w2 : Cond.selects nm ⟨"java/lang/Object", "getClass", "()Ljava/lang/Class;"⟩ ⟨"java/lang/Object", "getClass", "()Ljava/lang/Class;"⟩ ∈ zT) (w3 : Cond.instanceMethod ⟨"java/lang/Object", "getClass", "()Ljava/lang/Class;"⟩ ∈ zT) (w4 : Cond.native ⟨"java/lang/Object", "getClass", "()Ljava/lang/Class;"⟩ ∈ zT)
    (hfr : 1 ≤ fr) (hLl : L.length = M.2.2.1) (hcat : (st.map fun v => v.category).sum ≤ 8) (hd : decode M.2.1 pc = .ok (.invokevirtual idx, 3)) (h : gCaQ G a ka k = some (o, Gf)) (kk : k = some (o, Gf) → Y V M fr o Gf (pc + 3) L (.ref mi :: st) G) : Y V M fr o Gf pc L (.ref a :: st) G := by
  obtain ⟨c0, n, f, hb, hm, h⟩ := gAq_inv h
  have k8 := kk h
  exact ⟨k8.1, Z.getC hO ht hnm hb hm hlk w1 w2 w3 w4 hfr hLl hcat hd k8.2⟩
theorem Z.mmax {V : zV} {M : zM} {fr : Nat} {Q : Option Value → zH → Prop} {QX : String → zH → Prop} {mc ms pc : Nat} {L : zLs} {st : List Value} {G : zH} {x y : Int32} {idx : Nat} (hlk : Cond.methodLink M.1.cls idx Lib.Math.max.name ∈ zT) (w1 : Cond.static Lib.Math.max.name ∈ zT) (w2 : Cond.initialized "java/lang/Math" ∈ zT) (w3 : Cond.code Lib.Math.max.name Lib.Math.max.code 2 (some .int) ∈ zT) (hfr : 1 ≤ fr) (hLl : L.length = M.2.2.1) (hcat : (st.map fun v => v.category).sum ≤ 8) (hd : decode M.2.1 pc = .ok (.invokestatic idx, 3)) (k : Z V M fr Q QX mc ms (pc + 3) L (.int (if x < y then y else x) :: st) G) : Z V M fr Q QX mc ms pc L (.int y :: .int x :: st) G := by
  intro p e R s m args below meth c H locs cells slots CT ST ls C h1 h2 h3 h4 h5 h6 hS hR hl
  have hts := C.2.2.2.2.2.2.2.1
  have hK : va_K V.2.1 V.2.2.1 (zTy V.2.1 V.2.2.2.1) s := C.2.2.2.2.2.2.2.2.1
  have hsz : c.maxLocals = ls.size := C.2.2.1.trans (hl.1.trans hLl).symm
  exact va_mmax C.1 C.2.1 hsz C.2.2.2.2.2.1 (hts _ hlk) (hts _ w1) (hts _ w2) (hts _ w3) (by omega) (by omega) (by omega) (by omega) hd (k p e R s m args below meth c H locs cells slots CT ST ls C h1 h2 h3 h4 h5 h6 hS hR hl)
theorem Y.mmax {V : zV} {M : zM} {fr : Nat} {o : gO} {Gf : gH} {pc : Nat} {L : zLs} {st : List Value} {G : gH} {x y : Int32} {idx : Nat} (hlk : Cond.methodLink M.1.cls idx Lib.Math.max.name ∈ zT) (w1 : Cond.static Lib.Math.max.name ∈ zT) (w2 : Cond.initialized "java/lang/Math" ∈ zT) (w3 : Cond.code Lib.Math.max.name Lib.Math.max.code 2 (some .int) ∈ zT) (hfr : 1 ≤ fr) (hLl : L.length = M.2.2.1) (hcat : (st.map fun v => v.category).sum ≤ 8) (hd : decode M.2.1 pc = .ok (.invokestatic idx, 3)) (k : Y V M fr o Gf (pc + 3) L (.int (if x < y then y else x) :: st) G) : Y V M fr o Gf pc L (.int y :: .int x :: st) G := by
  exact ⟨k.1, Z.mmax hlk w1 w2 w3 hfr hLl hcat hd k.2⟩
theorem Z.mmin {V : zV} {M : zM} {fr : Nat} {Q : Option Value → zH → Prop} {QX : String → zH → Prop} {mc ms pc : Nat} {L : zLs} {st : List Value} {G : zH} {x y : Int32} {idx : Nat} (hlk : Cond.methodLink M.1.cls idx Lib.Math.min.name ∈ zT) (w1 : Cond.static Lib.Math.min.name ∈ zT) (w2 : Cond.initialized "java/lang/Math" ∈ zT) (w3 : Cond.code Lib.Math.min.name Lib.Math.min.code 2 (some .int) ∈ zT) (hfr : 1 ≤ fr) (hLl : L.length = M.2.2.1) (hcat : (st.map fun v => v.category).sum ≤ 8) (hd : decode M.2.1 pc = .ok (.invokestatic idx, 3)) (k : Z V M fr Q QX mc ms (pc + 3) L (.int (if y < x then y else x) :: st) G) : Z V M fr Q QX mc ms pc L (.int y :: .int x :: st) G := by
  intro p e R s m args below meth c H locs cells slots CT ST ls C h1 h2 h3 h4 h5 h6 hS hR hl
  have hts := C.2.2.2.2.2.2.2.1
  have hK : va_K V.2.1 V.2.2.1 (zTy V.2.1 V.2.2.2.1) s := C.2.2.2.2.2.2.2.2.1
  have hsz : c.maxLocals = ls.size := C.2.2.1.trans (hl.1.trans hLl).symm
  exact va_mmin C.1 C.2.1 hsz C.2.2.2.2.2.1 (hts _ hlk) (hts _ w1) (hts _ w2) (hts _ w3) (by omega) (by omega) (by omega) (by omega) hd (k p e R s m args below meth c H locs cells slots CT ST ls C h1 h2 h3 h4 h5 h6 hS hR hl)
theorem Y.mmin {V : zV} {M : zM} {fr : Nat} {o : gO} {Gf : gH} {pc : Nat} {L : zLs} {st : List Value} {G : gH} {x y : Int32} {idx : Nat} (hlk : Cond.methodLink M.1.cls idx Lib.Math.min.name ∈ zT) (w1 : Cond.static Lib.Math.min.name ∈ zT) (w2 : Cond.initialized "java/lang/Math" ∈ zT) (w3 : Cond.code Lib.Math.min.name Lib.Math.min.code 2 (some .int) ∈ zT) (hfr : 1 ≤ fr) (hLl : L.length = M.2.2.1) (hcat : (st.map fun v => v.category).sum ≤ 8) (hd : decode M.2.1 pc = .ok (.invokestatic idx, 3)) (k : Y V M fr o Gf (pc + 3) L (.int (if y < x then y else x) :: st) G) : Y V M fr o Gf pc L (.int y :: .int x :: st) G := by
  exact ⟨k.1, Z.mmin hlk w1 w2 w3 hfr hLl hcat hd k.2⟩
theorem Z.copyB {V : zV} {M : zM} {fr : Nat} {Q : Option Value → zH → Prop} {QX : String → zH → Prop} {mc ms pc : Nat} {L : zLs} {st : List Value} {G : zH} {a0 a k0 ka n0 n1 t0 idx : Nat} {f g : Nat → Int32} {sp dp n : Int32} (hlk : Cond.methodLink M.1.cls idx arraycopyName ∈ zT) (w1 : Cond.native arraycopyName ∈ zT) (w2 : Cond.static arraycopyName ∈ zT) (w3 : Cond.initialized "java/lang/System" ∈ zT) (hfr : 1 ≤ fr) (hLl : L.length = M.2.2.1) (hcat : (st.map fun v => v.category).sum ≤ 8) (hd : decode M.2.1 pc = .ok (.invokestatic idx, 3)) (ht : V.2.2.2.1[t0]? = some (ka, .byte)) (hka : ka < 1000) (hG0 : G.2 a0 = some (zI k0 n0 f)) (hkm : k0 % 1000 = ka) (hG1 : G.2 a = some (zI ka n1 g)) (g1 : ¬ sp < 0) (g2 : ¬ dp < 0) (g3 : ¬ n < 0) (g4 : sp.toNatClampNeg + n.toNatClampNeg ≤ n0) (g5 : dp.toNatClampNeg + n.toNatClampNeg ≤ n1) (hfit : ∀ i, i < n.toNatClampNeg → fits .byte (.int (f (sp.toNatClampNeg + i))) = true) (k : Z V M fr Q QX mc ms (pc + 3) L st (zUp G a (zI ka n1 (va_cpy f g sp.toNatClampNeg dp.toNatClampNeg n.toNatClampNeg)))) : Z V M fr Q QX mc ms pc L (.int n :: .int dp :: .ref a :: .int sp :: .ref a0 :: st) G := by
  intro p e_ R s m args below meth c H locs cells slots CT ST ls C h1 h2 h3 h4 h5 h6 hS hR hl
  have hts := C.2.2.2.2.2.2.2.1
  have hK : va_K V.2.1 V.2.2.1 (zTy V.2.1 V.2.2.2.1) s := C.2.2.2.2.2.2.2.2.1
  have nn : ∀ z : Int32, ¬ z < 0 → z.toInt = (z.toNatClampNeg : Int) := by
    intro z hz
    have hz0 : (0 : Int) ≤ z.toInt := by
      have := Int32.not_lt.mp hz
      simpa using Int32.le_iff_toInt_le.mp this
    show z.toInt = ((z.toInt.toNat : Nat) : Int)
    omega
  have hsz : c.maxLocals = ls.size := C.2.2.1.trans (hl.1.trans hLl).symm
  have e9 : ka % 1000 = ka := Nat.mod_eq_of_lt hka
  subst hkm
  obtain ⟨-, cs, qs1, qs2, qs3, qs4, qs5, qs6⟩ := hR.2 a0 _ hG0
  obtain ⟨hB0, cd, q1, q2, q3, q4, q5, q6⟩ := hR.2 a _ hG1
  have hBa : zA V a := hB0 (by show decide (1000 ≤ _) = false; exact decide_eq_false (by omega))
  have hcd : cd = vp_cell (V.2.1.1 (k0 % 1000)) (n1, .inl g) := by have := q3 hka; dsimp only at this; rw [e9] at this; exact this
  subst hcd
  have hA9 := (hK.2 t0 _ (zTy_at ht)).1
  obtain ⟨-, kk0, hk0, cm0, hkk0⟩ := zArrOf hA9 qs2 qs5
  obtain ⟨-, kk1, hk1, cm1, hkk1⟩ := hA9 n1 (fun j => .int (g j))
  intro T hT X
  obtain ⟨vm', X', step⟩ := X.arraycopy C.1 C.2.2.2.2.2.1 (hts _ hlk) (hts _ w1) (hts _ w2) (hts _ w3) (src := a0) (dst := a) (cs := cs) (cd := vp_cell (V.2.1.1 (k0 % 1000)) (n1, .inl g)) (srcPos := sp) (destPos := dp) (n := n) (by rw [hT]; exact qs1) (by rw [hT]; exact q1)
    (fun _ h => by rw [h] at qs5; cases qs5) (fun _ h => by cases h) qs4 (fun h => by cases h) hk0 hk1 hkk0 hkk1 (by simp [refKind]) g1 g2 g3
    (by rw [nn sp g1, nn n g3, zSz_i qs6]; omega)
    (by rw [nn dp g2, nn n g3, zSz_i q6]; omega)
    (fun vm₁ _ i hi => by
      have e : cs.slots.getD (sp.toNatClampNeg + i) .null = .int (f (sp.toNatClampNeg + i)) := by
        rw [Array.getD_eq_getD_getElem?, zGt_i qs6 (by omega)]
        rfl
      refine ⟨?_, ?_⟩
      · rw [e]
        exact hfit i hi
      · rw [e]
        exact trivial)
    (g := F0 m pc ls (.int n :: .int dp :: .ref a :: .int sp :: .ref a0 :: st)) rfl (by rw [hsz]) (rest := st) rfl (by rw [C.2.1]; exact hd) (by omega) (by show 2 * 0 + _ + _ ≤ _; have hw : nativeFrameWords "java/lang/System" "arraycopy" 5 ≤ 20 := (by decide); omega)
  have e1 : copied cs (vp_cell (V.2.1.1 (k0 % 1000)) (n1, .inl g)) sp dp n = vp_cell (V.2.1.1 (k0 % 1000)) (n1, .inl (va_cpy f g sp.toNatClampNeg dp.toNatClampNeg n.toNatClampNeg)) := by
    exact va_copiedX (fun z => .int z) cs (V.2.1.1 (k0 % 1000)) f g (fun j hj => zGt_i qs6 hj) g4
  rw [e1] at X' step
  have hlt : a < H.size := (Array.getElem?_eq_some_iff.mp q1).1
  generalize hnew : vp_cell (V.2.1.1 (k0 % 1000)) (n1, .inl (va_cpy f g sp.toNatClampNeg dp.toNatClampNeg n.toNatClampNeg)) = cn at X' step
  have hheap : ((T.setVm vm').setCell a cn).heap = H.setIfInBounds a cn := by rw [← hT]; rfl
  have oq : ∀ q : Nat, q ≠ a → (H.setIfInBounds a cn)[q]? = H[q]? := fun q hq => by simp [Array.getElem?_setIfInBounds, Ne.symm hq]
  have ea : (H.setIfInBounds a cn)[a]? = some cn := by simp [Array.getElem?_setIfInBounds, hlt]
  have hzz : (H.setIfInBounds a cn).size = H.size := by simp
  have k9 := fun (lc : List Loc) (hS9 : va_S (zA V) s.heap (H.setIfInBounds a cn) lc) => k p e_ R s m args below meth c (H.setIfInBounds a cn) lc cells slots CT ST ls C h1 h2 h3 h4 h5 h6 hS9 (hR.up hBa ⟨cn, ea, (by rw [← hnew, e9]; rfl), fun _ => (by rw [← hnew, e9]), (by rw [← hnew]; exact fun h => by cases h), (by rw [← hnew]; rfl), (by rw [← hnew]; rfl)⟩ hzz oq) hl
  obtain ⟨t, a1, b1⟩ := k9 _ ⟨by rw [hzz]; exact hS.1, fun q u1 u2 => (oq q (fun h => u2 (by rw [h]; exact hBa))).trans (hS.2.1 q u1 u2), fun q hq => by
      rcases List.mem_append.mp hq with h | h
      · exact hS.2.2 q h
      · obtain ⟨z, -, hz⟩ := List.mem_map.mp h
        rw [← hz]
        exact hBa⟩ _ hheap X'
  exact ⟨t, step t a1, b1⟩
theorem Z.copyQ {V : zV} {M : zM} {fr : Nat} {Q : Option Value → zH → Prop} {QX : String → zH → Prop} {mc ms pc : Nat} {L : zLs} {st : List Value} {G : zH} {a0 a k0 ka n0 n1 t0 idx : Nat} {f g : Nat → Option Nat} {sp dp n : Int32} (hlk : Cond.methodLink M.1.cls idx arraycopyName ∈ zT) (w1 : Cond.native arraycopyName ∈ zT) (w2 : Cond.static arraycopyName ∈ zT) (w3 : Cond.initialized "java/lang/System" ∈ zT) (hfr : 1 ≤ fr) (hLl : L.length = M.2.2.1) (hcat : (st.map fun v => v.category).sum ≤ 8) (hd : decode M.2.1 pc = .ok (.invokestatic idx, 3)) (ht : V.2.2.2.1[t0]? = some (ka, .object "java/lang/Object")) (hka : ka < 1000) (hG0 : G.2 a0 = some (zQ k0 n0 f)) (hkm : k0 % 1000 = ka) (hG1 : G.2 a = some (zQ ka n1 g)) (g1 : ¬ sp < 0) (g2 : ¬ dp < 0) (g3 : ¬ n < 0) (g4 : sp.toNatClampNeg + n.toNatClampNeg ≤ n0) (g5 : dp.toNatClampNeg + n.toNatClampNeg ≤ n1) (hel : ∀ i : Nat, i < n.toNatClampNeg → ∀ y : Nat, f (sp.toNatClampNeg + i) = some y → (∃ (c : Nat) (vs : List Value), G.2 y = some (.inr (c, vs)) ∧ c % 1000 = 9) ∨ (∃ (c : Nat) (x : vp_A), G.2 y = some (.inl (c, x)) ∧ c % 1000 = 100)) (hr9 : ∃ r, V.2.2.1[9]? = some r ∧ Cond.castable r.1 "java/lang/Object" ∈ zT) (hr0 : V.2.2.2.1[0]? = some (100, .int)) (hca : Cond.castable "[I" "java/lang/Object" ∈ zT) (k : Z V M fr Q QX mc ms (pc + 3) L st (zUp G a (zQ ka n1 (va_cpy f g sp.toNatClampNeg dp.toNatClampNeg n.toNatClampNeg)))) : Z V M fr Q QX mc ms pc L (.int n :: .int dp :: .ref a :: .int sp :: .ref a0 :: st) G := by
  intro p e_ R s m args below meth c H locs cells slots CT ST ls C h1 h2 h3 h4 h5 h6 hS hR hl
  have hts := C.2.2.2.2.2.2.2.1
  have hK : va_K V.2.1 V.2.2.1 (zTy V.2.1 V.2.2.2.1) s := C.2.2.2.2.2.2.2.2.1
  have nn : ∀ z : Int32, ¬ z < 0 → z.toInt = (z.toNatClampNeg : Int) := by
    intro z hz
    have hz0 : (0 : Int) ≤ z.toInt := by
      have := Int32.not_lt.mp hz
      simpa using Int32.le_iff_toInt_le.mp this
    show z.toInt = ((z.toInt.toNat : Nat) : Int)
    omega
  have hsz : c.maxLocals = ls.size := C.2.2.1.trans (hl.1.trans hLl).symm
  have e9 : ka % 1000 = ka := Nat.mod_eq_of_lt hka
  subst hkm
  obtain ⟨-, cs, qs1, qs2, qs3, qs4, qs5, qs6⟩ := hR.2 a0 _ hG0
  obtain ⟨hB0, cd, q1, q2, q3, q4, q5, q6⟩ := hR.2 a _ hG1
  have hBa : zA V a := hB0 (by show decide (1000 ≤ _) = false; exact decide_eq_false (by omega))
  have hcd : cd = vp_cell (V.2.1.1 (k0 % 1000)) (n1, .inr (.inr (.inr (.inr g)))) := by have := q3 hka; dsimp only at this; rw [e9] at this; exact this
  subst hcd
  have hA9 := (hK.2 t0 _ (zTy_at ht)).1
  obtain ⟨-, kk0, hk0, cm0, hkk0⟩ := zArrOf hA9 qs2 qs5
  obtain ⟨-, kk1, hk1, cm1, hkk1⟩ := hA9 n1 (fun j => va_rf (g j))
  intro T hT X
  obtain ⟨vm', X', step⟩ := X.arraycopy C.1 C.2.2.2.2.2.1 (hts _ hlk) (hts _ w1) (hts _ w2) (hts _ w3) (src := a0) (dst := a) (cs := cs) (cd := vp_cell (V.2.1.1 (k0 % 1000)) (n1, .inr (.inr (.inr (.inr g))))) (srcPos := sp) (destPos := dp) (n := n) (by rw [hT]; exact qs1) (by rw [hT]; exact q1)
    (fun _ h => by rw [h] at qs5; cases qs5) (fun _ h => by cases h) qs4 (fun h => by cases h) hk0 hk1 hkk0 hkk1 rfl g1 g2 g3
    (by rw [nn sp g1, nn n g3, zSz_q qs6]; omega)
    (by rw [nn dp g2, nn n g3, zSz_q q6]; omega)
    (fun vm₁ hal i hi => by
      have e : cs.slots.getD (sp.toNatClampNeg + i) .null = va_rf (f (sp.toNatClampNeg + i)) := by
        rw [Array.getD_eq_getD_getElem?, zGt_q qs6 (by omega)]
        rfl
      rw [e]
      cases hy : f (sp.toNatClampNeg + i) with
      | none => exact ⟨rfl, trivial⟩
      | some y =>
        obtain ⟨kA, comp, r1, r2, r3, -⟩ := (hK.2 t0 _ (zTy_at ht)).2
        cases hk1.symm.trans r1
        cases hkk1.symm.trans r2
        obtain ⟨kE, hkE, -⟩ := Vm.findClass_spec r3
        obtain ⟨kE', hkE', -⟩ := hal.2.2 _ _ hkE
        have key : ∃ cellV : Cell, H[y]? = some cellV ∧ cellV.vm.isStatics = false ∧ (∃ kC : Class, s.vm.classes[cellV.cls]? = some kC) ∧ s.vm.assignable cellV.cls cm1 = true := by
          rcases hel i hi y hy with ⟨c9, vs, hy2, hc9⟩ | ⟨c9, x9, hy2, hc9⟩
          · obtain ⟨-, r', cellV, hr', v1, v2, v3, v4, v5, -⟩ := hR.2 y _ hy2
            dsimp only at hr' v2
            rw [hc9] at hr' v2
            obtain ⟨r9, hr9', hca9⟩ := hr9
            have hcls := (hK.1 _ r9 hr9').2
            obtain ⟨kC, hkC, -⟩ := hcls.2
            obtain ⟨c8, t9, f1, f2, f3⟩ := Cond.castable_spec (hts _ hca9)
            cases hcls.1.symm.trans f1
            cases r3.symm.trans f2
            exact ⟨cellV, v1, v5, ⟨kC, by rw [v2]; exact hkC⟩, by rw [v2]; exact f3⟩
          · obtain ⟨-, cellV, v1, v2, v3, v4, v5, -⟩ := hR.2 y _ hy2
            dsimp only at v2
            rw [hc9] at v2
            have hfA := zArrName hK hr0
            rw [show "[" ++ FieldType.int.toString = "[I" from by decide] at hfA
            obtain ⟨kC, hkC, -⟩ := Vm.findClass_spec hfA
            obtain ⟨c8, t9, f1, f2, f3⟩ := Cond.castable_spec (hts _ hca)
            cases hfA.symm.trans f1
            cases r3.symm.trans f2
            exact ⟨cellV, v1, v5, ⟨kC, by rw [v2]; exact hkC⟩, by rw [v2]; exact f3⟩
        obtain ⟨cellV, v1, v2, ⟨kC, hkC⟩, v3⟩ := key
        obtain ⟨kC', hkC', -⟩ := hal.2.2 _ _ hkC
        refine ⟨rfl, cellV, (show T.heap[y]? = some cellV by rw [hT]; exact v1), (fun q h => by rw [h] at v2; cases v2), ⟨kC', hkC'⟩, ⟨kE', hkE'⟩, ?_⟩
        show vm₁.assignable _ _ = true
        rw [hal.assignable]
        exact v3)
    (g := F0 m pc ls (.int n :: .int dp :: .ref a :: .int sp :: .ref a0 :: st)) rfl (by rw [hsz]) (rest := st) rfl (by rw [C.2.1]; exact hd) (by omega) (by show 2 * 0 + _ + _ ≤ _; have hw : nativeFrameWords "java/lang/System" "arraycopy" 5 ≤ 20 := (by decide); omega)
  have e1 : copied cs (vp_cell (V.2.1.1 (k0 % 1000)) (n1, .inr (.inr (.inr (.inr g))))) sp dp n = vp_cell (V.2.1.1 (k0 % 1000)) (n1, .inr (.inr (.inr (.inr (va_cpy f g sp.toNatClampNeg dp.toNatClampNeg n.toNatClampNeg))))) := by
    exact va_copiedX (fun z => va_rf z) cs (V.2.1.1 (k0 % 1000)) f g (fun j hj => zGt_q qs6 hj) g4
  rw [e1] at X' step
  have hlt : a < H.size := (Array.getElem?_eq_some_iff.mp q1).1
  generalize hnew : vp_cell (V.2.1.1 (k0 % 1000)) (n1, .inr (.inr (.inr (.inr (va_cpy f g sp.toNatClampNeg dp.toNatClampNeg n.toNatClampNeg))))) = cn at X' step
  have hheap : ((T.setVm vm').setCell a cn).heap = H.setIfInBounds a cn := by rw [← hT]; rfl
  have oq : ∀ q : Nat, q ≠ a → (H.setIfInBounds a cn)[q]? = H[q]? := fun q hq => by simp [Array.getElem?_setIfInBounds, Ne.symm hq]
  have ea : (H.setIfInBounds a cn)[a]? = some cn := by simp [Array.getElem?_setIfInBounds, hlt]
  have hzz : (H.setIfInBounds a cn).size = H.size := by simp
  have k9 := fun (lc : List Loc) (hS9 : va_S (zA V) s.heap (H.setIfInBounds a cn) lc) => k p e_ R s m args below meth c (H.setIfInBounds a cn) lc cells slots CT ST ls C h1 h2 h3 h4 h5 h6 hS9 (hR.up hBa ⟨cn, ea, (by rw [← hnew, e9]; rfl), fun _ => (by rw [← hnew, e9]), (by rw [← hnew]; exact fun h => by cases h), (by rw [← hnew]; rfl), (by rw [← hnew]; rfl)⟩ hzz oq) hl
  obtain ⟨t, a1, b1⟩ := k9 _ ⟨by rw [hzz]; exact hS.1, fun q u1 u2 => (oq q (fun h => u2 (by rw [h]; exact hBa))).trans (hS.2.1 q u1 u2), fun q hq => by
      rcases List.mem_append.mp hq with h | h
      · exact hS.2.2 q h
      · obtain ⟨z, -, hz⟩ := List.mem_map.mp h
        rw [← hz]
        exact hBa⟩ _ hheap X'
  exact ⟨t, step t a1, b1⟩
theorem nat_copy : Cond.native arraycopyName ∈ zT := zU5 61 (by decide +kernel) rfl
theorem st_copy : Cond.static arraycopyName ∈ zT := zU5 60 (by decide +kernel) rfl
theorem lk_AR_150 : Cond.methodLink "java/util/Arrays" 150 arraycopyName ∈ zT := zU5 59 (by decide +kernel) rfl
theorem lk_ST_212 : Cond.methodLink "java/lang/String" 212 arraycopyName ∈ zT := zU5 226 (by decide +kernel) rfl
theorem lk_AL_112 : Cond.methodLink "java/util/ArrayList" 112 arraycopyName ∈ zT := zU6 237 (by decide +kernel) rfl
theorem dc_getC : Cond.declares ({ cls := "java/lang/Object", name := "getClass", desc := "()Ljava/lang/Class;" } : MethodName) ∈ zT := zU8 202 (by decide +kernel) rfl
theorem in_getC : Cond.instanceMethod ({ cls := "java/lang/Object", name := "getClass", desc := "()Ljava/lang/Class;" } : MethodName) ∈ zT := zU6 96 (by decide +kernel) rfl
theorem nat_getC : Cond.native ({ cls := "java/lang/Object", name := "getClass", desc := "()Ljava/lang/Class;" } : MethodName) ∈ zT := zU6 112 (by decide +kernel) rfl
theorem se_getC : Cond.selects "[Ljava/lang/Object;" ({ cls := "java/lang/Object", name := "getClass", desc := "()Ljava/lang/Class;" } : MethodName) ({ cls := "java/lang/Object", name := "getClass", desc := "()Ljava/lang/Class;" } : MethodName) ∈ zT := zU8 201 (by decide +kernel) rfl
theorem lk_AR_86 : Cond.methodLink "java/util/Arrays" 86 ⟨"java/lang/Object", "getClass", "()Ljava/lang/Class;"⟩ ∈ zT := zU6 95 (by decide +kernel) rfl
theorem ca_AL : Cond.castable "java/util/ArrayList" "java/lang/Object" ∈ zT := zU8 192 (by decide +kernel) rfl
theorem ca_I : Cond.castable "[I" "java/lang/Object" ∈ zT := zU8 203 (by decide +kernel) rfl
theorem ca_Bc : Cond.castable "[B" "java/lang/Cloneable" ∈ zT := zU5 54 (by decide +kernel) rfl
theorem lk_clone : Cond.methodLink "java/util/Arrays" 310 ⟨"[B", "clone", "()Ljava/lang/Object;"⟩ ∈ zT := zU5 49 (by decide +kernel) rfl
theorem sm_clone : Cond.sameMethod "[B" "java/lang/Object" "clone" "()Ljava/lang/Object;" ∈ zT := zU5 50 (by decide +kernel) rfl
theorem nat_clone : Cond.native ⟨"java/lang/Object", "clone", "()Ljava/lang/Object;"⟩ ∈ zT := zU5 51 (by decide +kernel) rfl
theorem in_clone : Cond.instanceMethod ⟨"java/lang/Object", "clone", "()Ljava/lang/Object;"⟩ ∈ zT := zU5 52 (by decide +kernel) rfl
theorem se_clone : Cond.selects "[B" ⟨"[B", "clone", "()Ljava/lang/Object;"⟩ ⟨"java/lang/Object", "clone", "()Ljava/lang/Object;"⟩ ∈ zT := zU5 53 (by decide +kernel) rfl
theorem Z.cloneB {V : zV} {M : zM} {fr : Nat} {Q : Option Value → zH → Prop} {QX : String → zH → Prop} {mc ms pc : Nat} {L : zLs} {st : List Value} {G : zH} {a ka n t0 idx : Nat} {f : Nat → Int32} (hlk : Cond.methodLink M.1.cls idx ⟨"[B", "clone", "()Ljava/lang/Object;"⟩ ∈ zT) (ht : V.2.2.2.1[t0]? = some (ka, .byte)) (hka : ka < 1000) (hG : G.2 a = some (zI ka n f)) (hfit : ∀ i, i < n → fits .byte (.int (f i)) = true)
    (hfr : 1 ≤ fr) (hLl : L.length = M.2.2.1) (hcat : (st.map fun v => v.category).sum ≤ 8) (hd : decode M.2.1 pc = .ok (.invokevirtual idx, 3)) (k : Z V M fr Q QX mc ms (pc + 3) L (.ref G.1 :: st) (zNew G (zI ka n f))) : Z V M fr Q QX (mc + 1) (ms + n) pc L (.ref a :: st) G := by
  intro p e_ R s m args below meth c H locs cells slots CT ST ls C h1 h2 h3 h4 h5 h6 hS hR hl
  have hts := C.2.2.2.2.2.2.2.1
  have hK : va_K V.2.1 V.2.2.1 (zTy V.2.1 V.2.2.2.1) s := C.2.2.2.2.2.2.2.2.1
  have hsz : c.maxLocals = ls.size := C.2.2.1.trans (hl.1.trans hLl).symm
  have hzz := hR.1
  have hBs := Nat.le_trans C.2.2.2.2.2.2.2.2.2.2.1 hS.1
  have e9 : ka % 1000 = ka := Nat.mod_eq_of_lt hka
  obtain ⟨hB0, cd, q1, q2, q3, q4, q5, q6⟩ := hR.2 a _ hG
  have hcd : cd = vp_cell (V.2.1.1 ka) (n, .inl f) := by have := q3 hka; dsimp only at this; rw [e9] at this; exact this
  subst hcd
  have hfA := zArrName hK ht
  rw [show "[" ++ FieldType.byte.toString = "[B" from by decide] at hfA
  obtain ⟨c0, t0', f1, f2, f3⟩ := Cond.castable_spec (hts _ ca_Bc)
  cases hfA.symm.trans f1
  intro T hT X
  have hcellT : T.heap[a]? = some (vp_cell (V.2.1.1 ka) (n, .inl f)) := by rw [hT]; exact q1
  obtain ⟨-, kA, hkA, comp, hkind⟩ := State.isArrayOf_alike X.warmed.alike ((hK.2 t0 _ (zTy_at ht)).1 0 (fun _ => .null))
  obtain ⟨-, kS, hkS, compS, hkindS⟩ := (hK.2 t0 _ (zTy_at ht)).1 0 (fun _ => .null)
  obtain ⟨vm', X', stp⟩ := X.cloneArray C.1 C.2.2.2.2.2.1 (hts _ hlk) (hts _ sm_clone) (hts _ nat_clone) (hts _ in_clone) (hts _ se_clone) (a := a) (cell := vp_cell (V.2.1.1 ka) (n, .inl f)) hcellT (fun k h => by cases h) (fun h => by cases h) hfA f2 f3
    (fun i v hv => by
      have hk' : T.vm.classes[V.2.1.1 ka]? = some kA := hkA
      have hv2 : (arrV (V.2.1.1 ka) n (fun j => .int (f j))).slots[i]? = some v := hv
      have hi : i < n := by have := (Array.getElem?_eq_some_iff.mp hv2).1; rwa [arrV_size] at this
      rw [arrV_read _ _ hi] at hv2
      cases hv2
      show State.fitsSlot _ (V.2.1.1 ka) _ _ _ = true
      simpa [State.fitsSlot, State.slotType?, hk', hkind] using hfit i hi)
    (g := F0 m pc ls (.ref a :: st)) rfl (by rw [hsz]) rfl (by rw [C.2.1]; exact hd) (by omega) (by show 2 * 0 + _ + 14 ≤ _; omega) (by omega) (by rw [zSz_i q6]; omega) (hloader := Vm.clonesLoader_of_array hkS hkindS)
  rw [zSz_i q6] at X'
  generalize hH1 : H.push (vp_cell (V.2.1.1 ka) (n, .inl f)) = H1
  have z1 : H1.size = H.size + 1 := by rw [← hH1, Array.size_push]
  have e1 : H1[H.size]? = some (vp_cell (V.2.1.1 ka) (n, .inl f)) := by rw [← hH1, Array.getElem?_push_size]
  have o1 : ∀ q : Nat, q < H.size → H1[q]? = H[q]? := fun q hq => by rw [← hH1, Array.getElem?_push, if_neg (Nat.ne_of_lt hq)]
  have k9 := k p e_ R s m args below meth c H1 locs (cells + 1) (slots + n) CT ST ls C h1 h2 h3 h4 (by omega) (by omega) (hS.new1 z1 o1) (hR.new hBs ⟨_, e1, (by show _ = V.2.1.1 (ka % 1000); rw [e9]; rfl), fun _ => (by show _ = vp_cell (V.2.1.1 (ka % 1000)) _; rw [e9]), (fun h => by cases h), rfl, rfl⟩ z1 o1) hl
  rw [← hzz] at k9
  obtain ⟨t, b1, b2⟩ := k9 _ (by rw [← hH1, ← hT]; rfl) X'
  refine ⟨t, stp t ?_, b2⟩
  rw [show T.heap.size = H.size by rw [hT]] at *
  exact b1
theorem Y.copyB {V : zV} {M : zM} {fr : Nat} {o : gO} {Gf : gH} {pc : Nat} {L : zLs} {st : List Value} {G : gH} {a0 a t0 idx : Nat} {sp dp n : Int32} {kk : gH → gR} (hlk : Cond.methodLink M.1.cls idx arraycopyName ∈ zT) (w1 : Cond.native arraycopyName ∈ zT) (w2 : Cond.static arraycopyName ∈ zT) (w3 : Cond.initialized "java/lang/System" ∈ zT) (hfr : 1 ≤ fr) (hLl : L.length = M.2.2.1) (hcat : (st.map fun v => v.category).sum ≤ 8) (hd : decode M.2.1 pc = .ok (.invokestatic idx, 3)) (ht : V.2.2.2.1[t0]? = some (101, .byte)) (h : gCpB G a0 sp a dp n kk = some (o, Gf)) (k9 : ∀ G' : gH, G'.1 = G.1 → G'.2.1 = G.2.1 → kk G' = some (o, Gf) → Y V M fr o Gf (pc + 3) L st G') : Y V M fr o Gf pc L (.int n :: .int dp :: .ref a :: .int sp :: .ref a0 :: st) G := by
  obtain ⟨c0, n0, f, he0, hm, h⟩ := gAr_inv h
  obtain ⟨n1, g, he1, h⟩ := gArW_inv h
  try dsimp only at h
  split at h
  · next hc =>
    obtain ⟨b1, b2, b3, b4, b5⟩ := gBnd_of hc.1
    have k8 := k9 (gUp G a (zI 101 n1 (va_cpy f g sp.toNatClampNeg dp.toNatClampNeg n.toNatClampNeg))) rfl rfl h
    exact ⟨k8.1, Z.copyB hlk w1 w2 w3 hfr hLl hcat hd ht (by decide) he0 hm he1 b1 b2 b3 b4 b5 (fun i hi => List.all_eq_true.mp hc.2 i (List.mem_range.mpr hi)) k8.2⟩
  · cases h
theorem Y.copyQ {V : zV} {M : zM} {fr : Nat} {o : gO} {Gf : gH} {pc : Nat} {L : zLs} {st : List Value} {G : gH} {a0 a t0 idx : Nat} {sp dp n : Int32} {kk : gH → gR} (hlk : Cond.methodLink M.1.cls idx arraycopyName ∈ zT) (w1 : Cond.native arraycopyName ∈ zT) (w2 : Cond.static arraycopyName ∈ zT) (w3 : Cond.initialized "java/lang/System" ∈ zT) (hfr : 1 ≤ fr) (hLl : L.length = M.2.2.1) (hcat : (st.map fun v => v.category).sum ≤ 8) (hd : decode M.2.1 pc = .ok (.invokestatic idx, 3)) (ht : V.2.2.2.1[t0]? = some (103, .object "java/lang/Object")) (hr9 : ∃ r, V.2.2.1[9]? = some r ∧ Cond.castable r.1 "java/lang/Object" ∈ zT) (hr0 : V.2.2.2.1[0]? = some (100, .int)) (h : gCpQ G a0 sp a dp n kk = some (o, Gf)) (k9 : ∀ G' : gH, G'.1 = G.1 → G'.2.1 = G.2.1 → kk G' = some (o, Gf) → Y V M fr o Gf (pc + 3) L st G') : Y V M fr o Gf pc L (.int n :: .int dp :: .ref a :: .int sp :: .ref a0 :: st) G := by
  obtain ⟨c0, n0, f, he0, hm, h⟩ := gAq_inv h
  obtain ⟨n1, g, he1, h⟩ := gAqW_inv h
  try dsimp only at h
  split at h
  · next hc =>
    obtain ⟨b1, b2, b3, b4, b5⟩ := gBnd_of hc.1
    have k8 := k9 (gUp G a (zQ 103 n1 (va_cpy f g sp.toNatClampNeg dp.toNatClampNeg n.toNatClampNeg))) rfl rfl h
    refine ⟨k8.1, Z.copyQ hlk w1 w2 w3 hfr hLl hcat hd ht (by decide) he0 hm he1 b1 b2 b3 b4 b5 (fun i hi y hy => ?_) hr9 hr0 ca_I k8.2⟩
    have hel := List.all_eq_true.mp hc.2 i (List.mem_range.mpr hi)
    rw [hy] at hel
    simp only [gEltO, gElt] at hel
    split at hel
    · next c9 vs h9 => exact Or.inl ⟨c9, vs, h9, by simpa using hel⟩
    · next c9 x h9 => exact Or.inr ⟨c9, x, h9, by simpa using hel⟩
    · cases hel
  · cases h
theorem Y.cloneB {V : zV} {M : zM} {fr : Nat} {o : gO} {Gf : gH} {pc : Nat} {L : zLs} {st : List Value} {G : gH} {a t0 idx : Nat} {kk : Nat → gH → gR} (hlk : Cond.methodLink M.1.cls idx ⟨"[B", "clone", "()Ljava/lang/Object;"⟩ ∈ zT) (ht : V.2.2.2.1[t0]? = some (101, .byte)) (hfr : 1 ≤ fr) (hLl : L.length = M.2.2.1) (hcat : (st.map fun v => v.category).sum ≤ 8) (hd : decode M.2.1 pc = .ok (.invokevirtual idx, 3)) (h : gClB G a kk = some (o, Gf)) (k9 : ∀ (a : Nat) (G' : gH), kk a G' = some (o, Gf) → Y V M fr o Gf (pc + 3) L (.ref a :: st) G') : Y V M fr o Gf pc L (.ref a :: st) G := by
  obtain ⟨n, f, he, h⟩ := gArW_inv h
  try dsimp only at h
  split at h
  · next hc =>
    have k8 := k9 _ _ h
    obtain ⟨⟨g1, g2⟩, k8⟩ := k8
    have e1 : (gNew G n (zI 101 n f)).2.1 = G.2.1 + 1 := rfl
    have e2 : (gNew G n (zI 101 n f)).1 = G.1 + n := rfl
    rw [e1] at g1 k8
    rw [e2] at g2 k8
    refine ⟨⟨by omega, by omega⟩, ?_⟩
    have k7 := Z.cloneB hlk ht (by decide) he (fun i hi => List.all_eq_true.mp hc i (List.mem_range.mpr hi)) hfr hLl hcat hd k8
    rw [show Gf.2.1 - (G.2.1 + 1) + 1 = Gf.2.1 - G.2.1 by omega, show Gf.1 - (G.1 + n) + n = Gf.1 - G.1 by omega] at k7
    exact k7
  · cases h
theorem Y.aastX {V : zV} {M : zM} {fr : Nat} {o : gO} {Gf : gH} {pc : Nat} {L : zLs} {st : List Value} {G : gH} {a b t0 : Nat} {i : Int32} {kk : gH → gR} (hd : decode M.2.1 pc = .ok (.aastore, 1)) (ht : V.2.2.2.1[t0]? = some (103, .object "java/lang/Object")) (hc9 : V.2.2.1[9]? = some ("java/util/ArrayList", T_AL, 3)) (hr0 : V.2.2.2.1[0]? = some (100, .int)) (h : gStX G a 103 i b kk = some (o, Gf)) (k9 : ∀ G' : gH, G'.1 = G.1 → G'.2.1 = G.2.1 → kk G' = some (o, Gf) → Y V M fr o Gf (pc + 1) L st G') : Y V M fr o Gf pc L (.ref b :: .int i :: .ref a :: st) G := by
  unfold gStX at h
  split at h
  · exact Y.aastC hd ht hc9 ca_AL (by decide) h k9
  · exact Y.aastA hd ht hr0 (by decide) ca_I (by decide) h k9
  · cases h
end
section
def rN (ty : FieldType) (x : Int32) (G : gH) : gR := if narrow ty (.int x) = .int x then some (.inr (some (.int x)), G) else none
theorem Y.nret {V : zV} {M : zM} {fr : Nat} {o : gO} {Gf : gH} {pc : Nat} {L : zLs} {st : List Value} {G : gH} {v : Int32} {ty : FieldType} (hr : M.2.2.2 = some ty) (hd : decode M.2.1 pc = .ok (.ireturn, 1)) (h : rN ty v G = some (o, Gf)) : Y V M fr o Gf pc L [.int v] G := by
  unfold rN at h
  split at h
  · next hv =>
    obtain ⟨rfl, rfl⟩ := Prod.mk.inj (Option.some.inj h)
    exact ⟨gLe.rfl', Z.room (Nat.le_refl _) (Nat.zero_le _) (Nat.zero_le _) (Z.iret (st := []) (mc := 0) (ms := 0) hr hv hd ⟨rfl, rfl⟩)⟩
  · cases h
/-- what is told of the old cells: the JDK's statics and the text constants lie at the addresses w -/
def zOld (V : zV) (w : Nat → Nat) : Prop := ∀ (U : State) (H : Heap), V.2.2.2.2.2 U H → va_Z "java/util/ArrayList" "DEFAULTCAPACITY_EMPTY_ELEMENTDATA" "[Ljava/lang/Object;" (.ref (w 0)) (zA V) U H ∧
  va_Z "java/lang/Integer" "DigitOnes" "[B" (.ref (w 1)) (zA V) U H ∧ va_Z "java/lang/Integer" "DigitTens" "[B" (.ref (w 2)) (zA V) U H ∧ va_Z "java/lang/String" "COMPACT_STRINGS" "Z" (.int (nI 1)) (zA V) U H ∧
  vk_R "PartlisterModel" 265 "," (w 3) U ∧ vk_R "PartlisterModel" 263 "" (w 5) U ∧ vk_R "PartlisterModel" 277 "-" (w 7) U ∧ vk_R "Partlister" 220 "-" (w 9) U ∧ va_Mi "[Ljava/lang/Object;" (w 11) U
def zGw (l : Launch) (D : va_G) (B : Nat) (O : State → Heap → Prop) (w : Nat → Nat) : Prop := zG l D B O ∧ zOld (zVm l D B O) w
theorem sf_AB_18 : Cond.fieldLink "java/lang/AbstractStringBuilder" 18 "java/lang/String" "COMPACT_STRINGS" "Z" ∈ zT := zU4 238 (by decide +kernel) rfl
theorem sf_IN_83 : Cond.fieldLink "java/lang/Integer" 83 "java/lang/Integer" "DigitOnes" "[B" ∈ zT := zU5 128 (by decide +kernel) rfl
theorem sf_IN_87 : Cond.fieldLink "java/lang/Integer" 87 "java/lang/Integer" "DigitTens" "[B" ∈ zT := zU5 130 (by decide +kernel) rfl
theorem sf_U6_403 : Cond.fieldLink "java/lang/StringUTF16" 403 "java/lang/Integer" "DigitOnes" "[B" ∈ zT := zU5 147 (by decide +kernel) rfl
theorem sf_U6_407 : Cond.fieldLink "java/lang/StringUTF16" 407 "java/lang/Integer" "DigitTens" "[B" ∈ zT := zU5 148 (by decide +kernel) rfl
theorem sf_ST_38 : Cond.fieldLink "java/lang/String" 38 "java/lang/String" "COMPACT_STRINGS" "Z" ∈ zT := zU5 212 (by decide +kernel) rfl
theorem sf_AL_39 : Cond.fieldLink "java/util/ArrayList" 39 "java/util/ArrayList" "DEFAULTCAPACITY_EMPTY_ELEMENTDATA" "[Ljava/lang/Object;" ∈ zT := zU6 57 (by decide +kernel) rfl
theorem sm_AB_append1 : Cond.sameMethod "java/lang/AbstractStringBuilder" "java/lang/AbstractStringBuilder" "append" "(C)Ljava/lang/AbstractStringBuilder;" ∈ zT := zU8 176 (by decide +kernel) rfl
theorem sm_AB_append2 : Cond.sameMethod "java/lang/AbstractStringBuilder" "java/lang/AbstractStringBuilder" "append" "(I)Ljava/lang/AbstractStringBuilder;" ∈ zT := zU8 180 (by decide +kernel) rfl
theorem sm_AB_append3 : Cond.sameMethod "java/lang/AbstractStringBuilder" "java/lang/AbstractStringBuilder" "append" "(Ljava/lang/String;)Ljava/lang/AbstractStringBuilder;" ∈ zT := zU8 181 (by decide +kernel) rfl
theorem sm_AB_appendNull : Cond.sameMethod "java/lang/AbstractStringBuilder" "java/lang/AbstractStringBuilder" "appendNull" "()Ljava/lang/AbstractStringBuilder;" ∈ zT := zU8 182 (by decide +kernel) rfl
theorem sm_AB_ensureCapacityInternal : Cond.sameMethod "java/lang/AbstractStringBuilder" "java/lang/AbstractStringBuilder" "ensureCapacityInternal" "(I)V" ∈ zT := zU8 177 (by decide +kernel) rfl
theorem sm_AB_getValue : Cond.sameMethod "java/lang/AbstractStringBuilder" "java/lang/AbstractStringBuilder" "getValue" "()[B" ∈ zT := zU5 164 (by decide +kernel) rfl
theorem sm_AB_inflate : Cond.sameMethod "java/lang/AbstractStringBuilder" "java/lang/AbstractStringBuilder" "inflate" "()V" ∈ zT := zU8 179 (by decide +kernel) rfl
theorem sm_AB_inflateIfNeededFor : Cond.sameMethod "java/lang/AbstractStringBuilder" "java/lang/AbstractStringBuilder" "inflateIfNeededFor" "(Ljava/lang/String;)V" ∈ zT := zU8 184 (by decide +kernel) rfl
theorem sm_AB_isLatin1 : Cond.sameMethod "java/lang/AbstractStringBuilder" "java/lang/AbstractStringBuilder" "isLatin1" "()Z" ∈ zT := zU5 64 (by decide +kernel) rfl
theorem sm_AB_length : Cond.sameMethod "java/lang/AbstractStringBuilder" "java/lang/AbstractStringBuilder" "length" "()I" ∈ zT := zU5 169 (by decide +kernel) rfl
theorem sm_AB_newCapacity : Cond.sameMethod "java/lang/AbstractStringBuilder" "java/lang/AbstractStringBuilder" "newCapacity" "(I)I" ∈ zT := zU8 178 (by decide +kernel) rfl
theorem sm_AB_putStringAt : Cond.sameMethod "java/lang/AbstractStringBuilder" "java/lang/AbstractStringBuilder" "putStringAt" "(ILjava/lang/String;)V" ∈ zT := zU8 183 (by decide +kernel) rfl
theorem su_N_OJ : Cond.superclass "Partlister$Numbers" "java/lang/Object" ∈ zT := zU1 54 (by decide +kernel) rfl
theorem su_I_OJ : Cond.superclass "Partlister$Lists" "java/lang/Object" ∈ zT := zU1 81 (by decide +kernel) rfl
theorem su_U_OJ : Cond.superclass "Partlister$Cursors" "java/lang/Object" ∈ zT := zU1 105 (by decide +kernel) rfl
theorem su_X_OJ : Cond.superclass "Partlister" "java/lang/Object" ∈ zT := zU1 121 (by decide +kernel) rfl
theorem su_O_OJ : Cond.superclass "PartlisterLaw$Out" "java/lang/Object" ∈ zT := zU2 118 (by decide +kernel) rfl
theorem su_TH_OJ : Cond.superclass "java/lang/Throwable" "java/lang/Object" ∈ zT := zU2 155 (by decide +kernel) rfl
theorem su_IOE_RX : Cond.superclass "java/lang/IndexOutOfBoundsException" "java/lang/RuntimeException" ∈ zT := zU2 199 (by decide +kernel) rfl
theorem su_IAE_RX : Cond.superclass "java/lang/IllegalArgumentException" "java/lang/RuntimeException" ∈ zT := zU2 220 (by decide +kernel) rfl
theorem su_ISE_RX : Cond.superclass "java/lang/IllegalStateException" "java/lang/RuntimeException" ∈ zT := zU3 1 (by decide +kernel) rfl
theorem su_SB_AB : Cond.superclass "java/lang/StringBuilder" "java/lang/AbstractStringBuilder" ∈ zT := zU5 19 (by decide +kernel) rfl
theorem su_ST_OJ : Cond.superclass "java/lang/String" "java/lang/Object" ∈ zT := zU6 13 (by decide +kernel) rfl
theorem su_AL_AY : Cond.superclass "java/util/ArrayList" "java/util/AbstractList" ∈ zT := zU6 70 (by decide +kernel) rfl
theorem su_M_OJ : Cond.superclass "PartlisterModel" "java/lang/Object" ∈ zT := zU6 148 (by decide +kernel) rfl
theorem su_MP_OJ : Cond.superclass "PartlisterModel$Part" "java/lang/Object" ∈ zT := zU7 180 (by decide +kernel) rfl
theorem su_MC_OJ : Cond.superclass "PartlisterModel$Cursor" "java/lang/Object" ∈ zT := zU7 215 (by decide +kernel) rfl
end
section
theorem zSelP {C : String} {y y2 : MethodName} {s : State} {args : Array Value} (h2 : (Cond.selects C y2 y2).before args s = true) (hcl : y2.cls = y.cls) (hy : y.cls ≠ "java/lang/invoke/MethodHandle" ∧ y.cls ≠ "java/lang/invoke/VarHandle")
    (hpriv : (Cond.privateMethod y).before args s = true) (hinst : (Cond.instanceMethod y).before args s = true) : (Cond.selects C y y).before args s = true := by
  obtain ⟨c2, r2, m2, q1, q2, q3, q4, kP, hkP, hkPi⟩ := Cond.selects_spec h2
  obtain ⟨mk, methM, hnamed, hmethM, -, -⟩ := Cond.instanceMethod_spec hinst
  have hfound : s.methodFound? y.cls y.name y.desc = some mk := State.methodFound?_of_named hnamed hy
  have hsel : selectMethod {} s.vm c2 mk = .method mk := selectMethod_private hmethM (Cond.privateMethod_at hpriv mk methM hnamed hmethM)
  have hcls : mk.cls = m2.cls := by
    have e1 := findClass_of_methodNamed hnamed
    have e2 := findClass_of_methodNamed q3
    rw [hcl] at e2
    exact Option.some.inj (e1.symm.trans e2)
  have hk : s.vm.classes[mk.cls]? = some kP := by rw [hcls]; exact hkP
  simp only [Cond.before, Cond.holds, Cond.value, q1, hfound, hnamed, hsel, hk]
  simp; exact hkPi
end
section
theorem Z.callU {V : zV} {M : zM} {fr : Nat} {Q : Option Value → zH → Prop} {QX : String → zH → Prop} {mc ms pc : Nat} {L : zLs} {st : List Value} {G : zH} {y : zM} {n fr9 yc ys idx : Nat} {As : List Value} {Qy : Option Value → zH → Prop} {Qyx : String → zH → Prop} {b c0 ci : Nat} {r : vw_C} {fs : List Value} {x : MethodName} {bx : ByteArray} {mx : Nat} {rx : Option FieldType} (hV : zOk V) (hy : zMet V y fr9 yc ys (.ref b :: As) G Qy Qyx) (hc : zCb y n) (hlk : Cond.methodLink M.1.cls idx x ∈ zT) (hsm : Cond.sameMethod x.cls x.cls x.name x.desc ∈ zT) (hix : Cond.instanceMethod x ∈ zT) (hcx : Cond.code x bx mx rx ∈ zT) (hnx : x.cls ≠ "java/lang/invoke/MethodHandle" ∧ x.cls ≠ "java/lang/invoke/VarHandle") (hsg : (parseMethodDescriptor x.desc).map (fun d => d.parameters.length) = some n) (hin : Cond.instanceMethod y.1 ∈ zT) (hrc : V.2.2.1[ci]? = some r) (hsl : Cond.selects r.1 x y.1 ∈ zT) (hG : G.2 b = some (.inr (c0, fs))) (hcm : c0 % 1000 = ci) (hd : decode M.2.1 pc = .ok (.invokevirtual idx, 3)) (hn : As.length = n) (hLl : L.length = M.2.2.1) (hcat : (st.map fun v => v.category).sum ≤ 8) (hf9 : fr9 + 1 ≤ fr) (hx : ∀ (E : String) (G' : zH), Qyx E G' → QX E G') (kk : ∀ (v : Option Value) (G' : zH), Qy v G' → Z V M fr Q QX mc ms (pc + 3) L (v.toList ++ st) G') : Z V M fr Q QX (mc + yc) (ms + ys) pc L (As.reverse ++ .ref b :: st) G := by
  intro p e R s m args below meth c H locs cells slots CT ST ls C h1 h2 h3 h4 h5 h6 hS hR hl
  have hts := C.2.2.2.2.2.2.2.1
  have hK : va_K V.2.1 V.2.2.1 (zTy V.2.1 V.2.2.2.1) s := C.2.2.2.2.2.2.2.2.1
  have hP := zPc_at (As := (.ref b :: As)) hV C hS hR
  have hml := hc.2.2.2.2
  have hsz : ls.size = M.2.2.1 := hl.1.trans hLl
  have hdecl : va_Decl s ⟨x.cls, x.name, x.desc⟩ := by
    obtain ⟨mk, methM, e1, e2, e3, -⟩ := Cond.instanceMethod_spec (hts _ hix)
    obtain ⟨methM', cM, e4, -, -, -, -, -, -, e5⟩ := Cond.code_spec e1 (hts _ hcx)
    cases e2.symm.trans e4
    exact ⟨mk, methM, e1, e2, e3, e5⟩
  have hsig : ∀ sig, parseMethodDescriptor x.desc = some sig → n = sig.parameters.length := by
    intro sig h9
    rw [h9] at hsg
    exact (Option.some.inj hsg).symm
  have hcb : va_CU R s args M.1.cls r.1 x.cls idx x y.1 y.2.1 y.2.2.1 y.2.2.2 (zW y) (zRm fr9 yc ys) yc ys n := ⟨⟨rfl, rfl, (by show fr9 + 1 ≤ R.frames; omega), (by show 8 + (y.2.2.1 + 11) + 60 * fr9 ≤ R.locals; omega), zW_stay hts hc, List.mem_cons_self⟩, hts _ hc.1, hts _ hc.2.1, hnx, hsig, hts _ hlk, hts _ hsm, hdecl, hts _ hsl, hts _ hin⟩
  subst hcm
  obtain ⟨-, r9, cellB, g0, g1, g2, g3, g4, g5, -⟩ := hR.2 b _ hG
  refine zAfter (a := ((.ref b :: As)).toArray) (yc := yc) (ys := ys) (st := st) ?_ C h1 h2 h3 h4 (by omega) (by omega) hS hl hx kk
  exact vx_runU (C := r.1) (owner := x.cls) (n := n) ⟨C.1, C.2.1, C.2.2.1, C.2.2.2.2.2.1, hts⟩ hy hcb ⟨hP.1, ⟨cellB, g1, g5, by rw [g2]; exact (hK.1 _ r hrc).2.1⟩, hP.2⟩ rfl hn hsz rfl (lv_room hcat) hd ⟨by omega, by omega⟩
theorem yC.U {V : zV} {M : zM} {fr : Nat} {pc : Nat} {L : zLs} {st : List Value} {y : zM} {n fr9 idx b c0 ci : Nat} {As : List Value} {r : vw_C} {fs : List Value} {H : zH} {x : MethodName} {bx : ByteArray} {mx : Nat} {rx : Option FieldType} (hV : zOk V) (hc : zCb y n) (hlk : Cond.methodLink M.1.cls idx x ∈ zT) (hsm : Cond.sameMethod x.cls x.cls x.name x.desc ∈ zT) (hix : Cond.instanceMethod x ∈ zT) (hcx : Cond.code x bx mx rx ∈ zT) (hnx : x.cls ≠ "java/lang/invoke/MethodHandle" ∧ x.cls ≠ "java/lang/invoke/VarHandle") (hsg : (parseMethodDescriptor x.desc).map (fun d => d.parameters.length) = some n) (hin : Cond.instanceMethod y.1 ∈ zT) (hrc : V.2.2.1[ci]? = some r) (hsl : Cond.selects r.1 x y.1 ∈ zT)
    (hd : decode M.2.1 pc = .ok (.invokevirtual idx, 3)) (hn : As.length = n) (hLl : L.length = M.2.2.1) (hcat : (st.map fun v => v.category).sum ≤ 8) (hf9 : fr9 + 1 ≤ fr) (hG : H.2 b = some (.inr (c0, fs))) (hcm : c0 % 1000 = ci) : yCall V M fr y pc L (As.reverse ++ .ref b :: st) st H (.ref b :: As) fr9 :=
  fun _ _ _ _ _ _ _ _ hy hx kk => Z.callU hV hy hc hlk hsm hix hcx hnx hsg hin hrc hsl hG hcm hd hn hLl hcat hf9 hx kk
theorem sx_SB_length : Cond.selects "java/lang/StringBuilder" m_AB_length.1 m_SB_length.1 ∈ zT := zU5 170 (by decide +kernel) rfl
end
