theorem zEn_len : ∀ (n : Nat) (As : List Value), (zEn n As).length = n
  | 0, _ => rfl
  | n + 1, [] => by simp [zEn, zEn_len n []]
  | 0 + 1, .long x :: t => rfl
  | n + 1 + 1, .long x :: t => by simp [zEn, zEn_len n t]
  | 0 + 1, .double x :: t => rfl
  | n + 1 + 1, .double x :: t => by simp [zEn, zEn_len n t]
  | n + 1, .int x :: t => by simp [zEn, zEn_len n t]
  | n + 1, .float x :: t => by simp [zEn, zEn_len n t]
  | n + 1, .null :: t => by simp [zEn, zEn_len n t]
  | n + 1, .ref x :: t => by simp [zEn, zEn_len n t]
  | n + 1, .retAddr x :: t => by simp [zEn, zEn_len n t]
theorem zEn_get : ∀ (n : Nat) (As : List Value) (k i : Nat) (v : Value), (zEn n As)[i]? = some (some v) → (k + i, v) ∈ lv_args k As
  | 0, As, k, i, v, h => by simp [zEn] at h
  | n + 1, [], k, i, v, h => by
    cases i with
    | zero => simp [zEn] at h
    | succ i => simp [zEn] at h; exact absurd (zEn_get n [] (k + 1) i v h) (by simp [lv_args])
  | n + 1, a :: t, k, i, v, h => by
    cases i with
    | zero =>
      have e : a = v := by cases n <;> cases a <;> simp [zEn] at h <;> exact h
      subst e
      exact List.mem_cons_self
    | succ i =>
      refine List.mem_cons_of_mem _ ?_
      by_cases hc : a.category = 2
      · rw [if_pos hc]
        have h9 : ∃ n', n = n' + 1 ∧ (none :: zEn n' t)[i]? = some (some v) := by
          cases a <;> simp [Value.category] at hc <;> cases n <;> simp [zEn] at h ⊢ <;> exact h
        obtain ⟨n', rfl, h9⟩ := h9
        cases i with
        | zero => simp at h9
        | succ i =>
          have := zEn_get n' t (k + 2) i v (by simpa using h9)
          rw [show k + (i + 1 + 1) = k + 2 + i by omega]
          exact this
      · rw [if_neg hc]
        have h9 : (zEn n t)[i]? = some (some v) := by
          cases a <;> simp [Value.category] at hc <;> simpa [zEn] using h
        have := zEn_get n t (k + 1) i v h9
        rw [show k + (i + 1) = k + 1 + i by omega]
        exact this
termination_by n => n
theorem zEn_ok {ls : Array Slot} {n : Nat} {As : List Value} (h : lv_has ls n (lv_args 0 As)) : zL ls (zEn n As) :=
  zL_of h (zEn_len n As) (fun i v hv => by
    have := zEn_get n As 0 i v hv
    rwa [Nat.zero_add] at this)
def zFu : Nat := 6000
def zDp : Nat := 8
def zNm : List String := ["java/lang/RuntimeException", "java/lang/Exception"]
def zStr : List (String × Nat × String) := [("Partlister", 329, "there is no such LIST"), ("Partlister", 341, "key is not 0 to 30"), ("Partlister", 343, "a ROW has at most 31"), ("Partlister", 339, "not 0 to LENGTH"), ("Partlister", 345, "both are of the same ROW"), ("Partlister", 337, "there is no such PLACE"), ("Partlister", 83, "by is not 1 to 9"), ("Partlister", 88, "rest is not 0 to by - 1"), ("Partlister", 90, "times is not 0 to 30"), ("Partlister", 92, "more is not 0 to 30"), ("Partlister", 331, "row is not 0 or 1"), ("Partlister", 112, "order is not 0 to 4"), ("Partlister", 120, "by is not -40 to 40"), ("Partlister", 127, "to is not from to LENGTH"), ("Partlister", 136, "there are four PARTS"), ("Partlister", 333, "there is no such PART"), ("Partlister", 162, "there are three CURSORS"), ("Partlister", 335, "there is no such CURSOR"), ("Partlister", 185, "list is not 0 to 5"), ("Partlister", 208, "the LIST is not SORTED"), ("Partlister", 236, "what is not 0 to 3"), ("Partlister", 241, "cursor is not 0 to 2"), ("Partlister", 243, "what is not 0 to 6"), ("Partlister", 248, "what is not 0 to 7")]
abbrev zVm (l : Launch) (D : va_G) (B : Nat) (O : State → Heap → Prop) : zV := (l, D, zCl, zTys, B, O)
/-- what a throw needs of the old cells -/
def zTh (V : zV) : Prop := ∀ (own : String) (k : Nat) (tx : String), (own, k, tx) ∈ zStr → ∀ (U : State) (H : Heap), V.2.2.2.2.2 U H → vx_Zq Bundle.tN "UNASSIGNED_STACK" Bundle.steD (zA V) U H ∧ vx_Zq Bundle.tN "SUPPRESSED_SENTINEL" Bundle.listD (zA V) U H ∧ ∃ sa : Nat, vk_R own k tx sa U
def zG (l : Launch) (D : va_G) (B : Nat) (O : State → Heap → Prop) : Prop := zOk (zVm l D B O) ∧ zTh (zVm l D B O)
theorem Z.objInit {V : zV} {M : zM} {fr : Nat} {Q : Option Value → zH → Prop} {QX : String → zH → Prop} {mc ms pc : Nat} {L : zLs} {st : List Value} {G : zH} {a idx : Nat} (hlk : Cond.methodLink M.1.cls idx Lib.objectInit ∈ zT) (hin : Cond.instanceMethod Lib.objectInit ∈ zT) (hcw : Cond.code Lib.objectInit ⟨#[0xb1]⟩ 1 none ∈ zT) (hfr : 1 ≤ fr) (hLl : L.length = M.2.2.1) (hcat : (st.map fun v => v.category).sum ≤ 8) (hd : decode M.2.1 pc = .ok (.invokespecial idx, 3)) (k : Z V M fr Q QX mc ms (pc + 3) L st G) : Z V M fr Q QX mc ms pc L (.ref a :: st) G := by
  intro p e R s m args below meth c H locs cells slots CT ST ls C h1 h2 h3 h4 h5 h6 hS hR hl
  have hts := C.2.2.2.2.2.2.2.1
  have hsz : ls.size = c.maxLocals := (hl.1.trans hLl).trans C.2.2.1.symm
  exact W.objInit C.1 C.2.1 C.2.2.2.2.2.1 (hts _ hlk) (hts _ hin) (hts _ hcw) rfl hsz rfl hd (by omega) (by show 2 * 0 + _ + 12 ≤ R.locals; omega) (k p e R s m args below meth c H locs cells slots CT ST ls C h1 h2 h3 h4 h5 h6 hS hR hl)
theorem Z.ldc {V : zV} {M : zM} {fr : Nat} {Q : Option Value → zH → Prop} {QX : String → zH → Prop} {mc ms pc : Nat} {L : zLs} {st : List Value} {G : zH} {idx : Nat} {v : Int32} (hw : Cond.constant M.1.cls idx v ∈ zT) (hd : decode M.2.1 pc = .ok (.ldc idx, 2)) (k : Z V M fr Q QX mc ms (pc + 2) L (.int v :: st) G) : Z V M fr Q QX mc ms pc L st G := by
  intro p e R s m args below meth c H locs cells slots CT ST ls C h1 h2 h3 h4 h5 h6 hS hR hl
  exact lv_ldc C.1 C.2.1 C.2.2.2.2.2.1 (C.2.2.2.2.2.2.2.1 _ hw) hd (k p e R s m args below meth c H locs cells slots CT ST ls C h1 h2 h3 h4 h5 h6 hS hR hl)
theorem Z.ldcw {V : zV} {M : zM} {fr : Nat} {Q : Option Value → zH → Prop} {QX : String → zH → Prop} {mc ms pc : Nat} {L : zLs} {st : List Value} {G : zH} {idx : Nat} {v : Int32} (hw : Cond.constant M.1.cls idx v ∈ zT) (hd : decode M.2.1 pc = .ok (.ldc_w idx, 3)) (k : Z V M fr Q QX mc ms (pc + 3) L (.int v :: st) G) : Z V M fr Q QX mc ms pc L st G := by
  intro p e R s m args below meth c H locs cells slots CT ST ls C h1 h2 h3 h4 h5 h6 hS hR hl
  exact lv_ldcw C.1 C.2.1 C.2.2.2.2.2.1 (C.2.2.2.2.2.2.2.1 _ hw) hd (k p e R s m args below meth c H locs cells slots CT ST ls C h1 h2 h3 h4 h5 h6 hS hR hl)
theorem Z.ldc2 {V : zV} {M : zM} {fr : Nat} {Q : Option Value → zH → Prop} {QX : String → zH → Prop} {mc ms pc : Nat} {L : zLs} {st : List Value} {G : zH} {idx : Nat} {v : Int64} (hw : Cond.constantLong M.1.cls idx v ∈ zT) (hd : decode M.2.1 pc = .ok (.ldc2_w idx, 3)) (k : Z V M fr Q QX mc ms (pc + 3) L (.long v :: st) G) : Z V M fr Q QX mc ms pc L st G := by
  intro p e R s m args below meth c H locs cells slots CT ST ls C h1 h2 h3 h4 h5 h6 hS hR hl
  exact lv_ldc2 C.1 C.2.1 C.2.2.2.2.2.1 (C.2.2.2.2.2.2.2.1 _ hw) hd (k p e R s m args below meth c H locs cells slots CT ST ls C h1 h2 h3 h4 h5 h6 hS hR hl)
theorem Y.objInit {V : zV} {M : zM} {fr : Nat} {o : gO} {Gf : gH} {pc : Nat} {L : zLs} {st : List Value} {G : gH} {a idx : Nat} (hlk : Cond.methodLink M.1.cls idx Lib.objectInit ∈ zT) (hin : Cond.instanceMethod Lib.objectInit ∈ zT) (hcw : Cond.code Lib.objectInit ⟨#[0xb1]⟩ 1 none ∈ zT) (hfr : 1 ≤ fr) (hLl : L.length = M.2.2.1) (hcat : (st.map fun v => v.category).sum ≤ 8) (hd : decode M.2.1 pc = .ok (.invokespecial idx, 3)) (k : Y V M fr o Gf (pc + 3) L st G) : Y V M fr o Gf pc L (.ref a :: st) G := by
  exact ⟨k.1, Z.objInit hlk hin hcw hfr hLl hcat hd k.2⟩
theorem Y.ldc {V : zV} {M : zM} {fr : Nat} {o : gO} {Gf : gH} {pc : Nat} {L : zLs} {st : List Value} {G : gH} {idx : Nat} {v : Int32} (hw : Cond.constant M.1.cls idx v ∈ zT) (hd : decode M.2.1 pc = .ok (.ldc idx, 2)) (k : Y V M fr o Gf (pc + 2) L (.int v :: st) G) : Y V M fr o Gf pc L st G := by
  exact ⟨k.1, Z.ldc hw hd k.2⟩
theorem Y.ldcw {V : zV} {M : zM} {fr : Nat} {o : gO} {Gf : gH} {pc : Nat} {L : zLs} {st : List Value} {G : gH} {idx : Nat} {v : Int32} (hw : Cond.constant M.1.cls idx v ∈ zT) (hd : decode M.2.1 pc = .ok (.ldc_w idx, 3)) (k : Y V M fr o Gf (pc + 3) L (.int v :: st) G) : Y V M fr o Gf pc L st G := by
  exact ⟨k.1, Z.ldcw hw hd k.2⟩
theorem Y.ldc2 {V : zV} {M : zM} {fr : Nat} {o : gO} {Gf : gH} {pc : Nat} {L : zLs} {st : List Value} {G : gH} {idx : Nat} {v : Int64} (hw : Cond.constantLong M.1.cls idx v ∈ zT) (hd : decode M.2.1 pc = .ok (.ldc2_w idx, 3)) (k : Y V M fr o Gf (pc + 3) L (.long v :: st) G) : Y V M fr o Gf pc L st G := by
  exact ⟨k.1, Z.ldc2 hw hd k.2⟩
theorem Y.swC {V : zV} {M : zM} {fr : Nat} {o : gO} {Gf : gH} {pc : Nat} {L : zLs} {st : List Value} {G : gH} {j dflt lo hi : Int} {offs : Array Int} {len : Nat} {x : Int32} {off : Int} {tgt : Nat} {A Bc : gR} (hd : decode M.2.1 pc = .ok (.tableswitch dflt lo hi offs, len)) (hr : lo ≤ j ∧ j ≤ hi) (ho : offs[(j - lo).toNat]? = some off) (ht : (pc : Int) + off = (tgt : Int)) (h : (if x.toInt = j then A else Bc) = some (o, Gf)) (ka : x.toInt = j → A = some (o, Gf) → Y V M fr o Gf tgt L st G) (kb : ¬ x.toInt = j → Bc = some (o, Gf) → Y V M fr o Gf pc L (.int x :: st) G) : Y V M fr o Gf pc L (.int x :: st) G := by
  by_cases hj : x.toInt = j
  · rw [if_pos hj] at h
    have k := ka hj h
    exact ⟨k.1, Z.swIn hd (by omega) (by omega) (by rw [hj]; exact ho) ht k.2⟩
  · rw [if_neg hj] at h
    exact kb hj h
theorem cw_OJ_init : Cond.code Lib.objectInit ⟨#[0xb1]⟩ 1 none ∈ zT := zU1 38 (by decide +kernel) rfl
theorem co_IN_265 : Cond.constant "java/lang/Integer" 265 (nI 1431655765) ∈ zT := zU1 211 (by decide +kernel) rfl
theorem co_IN_266 : Cond.constant "java/lang/Integer" 266 (nI 858993459) ∈ zT := zU1 212 (by decide +kernel) rfl
theorem co_IN_267 : Cond.constant "java/lang/Integer" 267 (nI 252645135) ∈ zT := zU1 213 (by decide +kernel) rfl
theorem co_X_261 : Cond.constantLong "Partlister" 261 (lN 2203) ∈ zT := zU1 222 (by decide +kernel) rfl
theorem co_X_321 : Cond.constantLong "Partlister" 321 (lN 31) ∈ zT := zU2 19 (by decide +kernel) rfl
theorem co_U6_20 : Cond.constant "java/lang/StringUTF16" 20 (nI 1073741823) ∈ zT := zU5 6 (by decide +kernel) rfl
theorem co_AS_200 : Cond.constant "jdk/internal/util/ArraysSupport" 200 (nI 2147483639) ∈ zT := zU5 41 (by decide +kernel) rfl
theorem co_AB_39 : Cond.constant "java/lang/AbstractStringBuilder" 39 (nI 2147483647) ∈ zT := zU5 45 (by decide +kernel) rfl
theorem co_M_305 : Cond.constantLong "PartlisterModel" 305 (lN 2203) ∈ zT := zU8 169 (by decide +kernel) rfl
theorem co_M_303 : Cond.constantLong "PartlisterModel" 303 (lN 31) ∈ zT := zU8 173 (by decide +kernel) rfl
theorem fm_mem {T : List Cond} {is : List Nat} {w : Cond} (h : w ∈ is.filterMap (fun i => T[i]?)) : w ∈ T := by
  obtain ⟨i, -, h2⟩ := List.mem_filterMap.mp h
  exact List.mem_of_getElem? h2
def S9 : List Cond := ([14, 15, 16, 17, 18, 19, 37, 38] : List Nat).filterMap (fun i => tables_1_1[i]?) ++ (([122, 123, 124, 133, 134, 135, 136, 137, 138, 139, 140, 141, 142, 143, 144, 145, 146, 147, 148, 149, 150, 151, 152, 153, 154, 155, 156, 157, 158, 159, 160, 161, 162, 163, 164, 165, 166, 167, 168, 169, 170, 171, 172, 173, 175, 176, 177, 178, 179, 180, 181, 182, 183, 184, 185, 186, 187, 188, 189, 190, 191, 192, 193, 194, 195, 196, 197, 198, 199, 205, 206, 207, 208, 209, 210, 211, 212, 213, 215, 216, 217, 218, 219, 220, 226, 227, 228, 229, 230, 231, 232, 233, 234, 236, 237, 238, 239] : List Nat).filterMap (fun i => tables_1_2[i]?) ++ (([0, 1] : List Nat).filterMap (fun i => tables_1_3[i]?) ++ (([185] : List Nat).filterMap (fun i => tables_1_5[i]?) ++ (([106, 107, 108, 224] : List Nat).filterMap (fun i => tables_1_6[i]?) ++ (([183] : List Nat).filterMap (fun i => tables_1_8[i]?))))))
theorem S9_sub (w : Cond) (h : w ∈ S9) : w ∈ tables_1 := by
  rcases List.mem_append.mp h with h | h
  · exact tu1 _ (fm_mem h)
  rcases List.mem_append.mp h with h | h
  · exact tu2 _ (fm_mem h)
  rcases List.mem_append.mp h with h | h
  · exact tu3 _ (fm_mem h)
  rcases List.mem_append.mp h with h | h
  · exact tu5 _ (fm_mem h)
  rcases List.mem_append.mp h with h | h
  · exact tu6 _ (fm_mem h)
  exact tu8 _ (fm_mem h)
theorem tw_X_129 : ∀ w ∈ vx_atS "Partlister" 129 "java/lang/IndexOutOfBoundsException" zNm, w ∈ zT := fun w hw => zT_of (List.mem_append_right _ (S9_sub w ((by decide +kernel : ∀ w ∈ vx_atS "Partlister" 129 "java/lang/IndexOutOfBoundsException" zNm, w ∈ S9) w hw))) ((by decide +kernel : ∀ w ∈ vx_atS "Partlister" 129 "java/lang/IndexOutOfBoundsException" zNm, zGood w = true) w hw)
theorem tg_X_129 : ∀ w ∈ Cond.classLink "Partlister" 125 "java/lang/IndexOutOfBoundsException" :: Cond.initialized "java/lang/IndexOutOfBoundsException" :: vx_atS "Partlister" 129 "java/lang/IndexOutOfBoundsException" zNm, vx_ot w = true := by decide +kernel
theorem tw_X_85 : ∀ w ∈ vx_atS "Partlister" 85 "java/lang/IllegalArgumentException" zNm, w ∈ zT := fun w hw => zT_of (List.mem_append_right _ (S9_sub w ((by decide +kernel : ∀ w ∈ vx_atS "Partlister" 85 "java/lang/IllegalArgumentException" zNm, w ∈ S9) w hw))) ((by decide +kernel : ∀ w ∈ vx_atS "Partlister" 85 "java/lang/IllegalArgumentException" zNm, zGood w = true) w hw)
theorem tg_X_85 : ∀ w ∈ Cond.classLink "Partlister" 81 "java/lang/IllegalArgumentException" :: Cond.initialized "java/lang/IllegalArgumentException" :: vx_atS "Partlister" 85 "java/lang/IllegalArgumentException" zNm, vx_ot w = true := by decide +kernel
theorem tw_X_138 : ∀ w ∈ vx_atS "Partlister" 138 "java/lang/IllegalStateException" zNm, w ∈ zT := fun w hw => zT_of (List.mem_append_right _ (S9_sub w ((by decide +kernel : ∀ w ∈ vx_atS "Partlister" 138 "java/lang/IllegalStateException" zNm, w ∈ S9) w hw))) ((by decide +kernel : ∀ w ∈ vx_atS "Partlister" 138 "java/lang/IllegalStateException" zNm, zGood w = true) w hw)
theorem tg_X_138 : ∀ w ∈ Cond.classLink "Partlister" 134 "java/lang/IllegalStateException" :: Cond.initialized "java/lang/IllegalStateException" :: vx_atS "Partlister" 138 "java/lang/IllegalStateException" zNm, vx_ot w = true := by decide +kernel
theorem Z.throwSW {V : zV} {M : zM} {fr : Nat} {Q : Option Value → zH → Prop} {QX : String → zH → Prop} {mc ms pc : Nat} {L : zLs} {st : List Value} {G : zH} {cls text : String} {names : List String} {ik is ic : Nat} (hV : zOk V) (hO : ∀ (U : State) (H : Heap), V.2.2.2.2.2 U H → vx_Zq Bundle.tN "UNASSIGNED_STACK" Bundle.steD (zA V) U H ∧ vx_Zq Bundle.tN "SUPPRESSED_SENTINEL" Bundle.listD (zA V) U H ∧ ∃ sa : Nat, vk_R M.1.cls is text sa U)
    (hcls : Bundle.fit cls = true) (hnames : ∀ n ∈ names, Bundle.fit n = true) (w1 : Cond.classLink M.1.cls ik cls ∈ zT) (w2 : Cond.initialized cls ∈ zT) (w3 : ∀ w ∈ vx_atS M.1.cls ic cls names, w ∈ zT) (hgood : ∀ w ∈ Cond.classLink M.1.cls ik cls :: Cond.initialized cls :: vx_atS M.1.cls ic cls names, vx_ot w = true)
    (hn : names.length ≤ 2) (hfr : 6 ≤ fr) (hLl : L.length = M.2.2.1) (hcat : (st.map fun v => v.category).sum ≤ 8)
    (d0 : decode M.2.1 pc = .ok (.new ik, 3)) (d3 : decode M.2.1 (pc + 3) = .ok (.dup, 1)) (d4 : decode M.2.1 (pc + 4) = .ok (.ldc_w is, 3)) (d6 : decode M.2.1 (pc + 7) = .ok (.invokespecial ic, 3)) (d9 : decode M.2.1 (pc + 10) = .ok (.athrow, 1))
    (hq : ∀ n : Nat, G.1 ≤ n → QX cls (n, G.2)) : Z V M fr Q QX (mc + 1) (ms + 6) pc L st G := by
  intro p e R s m args below meth c H locs cells slots CT ST ls C h1 h2 h3 h4 h5 h6 hS hR hl
  have hts := C.2.2.2.2.2.2.2.1
  obtain ⟨o1, o2, sa, o3⟩ := hO s s.heap C.2.2.2.2.2.2.2.2.2.1
  have hsz : ls.size = c.maxLocals := (hl.1.trans hLl).trans C.2.2.1.symm
  refine vx_throwSW C.1 C.2.1 hV.1 C.2.2.2.2.2.1 hcls hnames (hts _ w1) (hts _ w2) o3 (fun w hw => hts w (w3 w hw)) hgood o1 o2 hS hsz d0 d3 d4 d6 d9 (fun x h => (C.2.2.2.2.2.2.2.2.2.2.2 x h).elim) (by omega) (by omega) (by omega) (by omega) C.2.2.2.2.1 ?_ hS.2.2 (by omega) (by omega)
  intro t _ hz ho
  have hsR := hR.1
  refine ⟨(t.heap.size, G.2), hq _ (by omega), ⟨rfl, fun a e9 he => ⟨(hR.2 a e9 he).1, (hR.2 a e9 he).2.kept (ho a (hR.2 a e9 he).2.lt)⟩⟩, Nat.le_trans hS.1 hz, fun q g1 g2 => (ho q (Nat.lt_of_lt_of_le g1 hS.1)).trans (hS.2.1 q g1 g2)⟩
theorem Y.throwSW {V : zV} {M : zM} {fr : Nat} {o : gO} {Gf : gH} {pc : Nat} {L : zLs} {st : List Value} {G : gH} {cls text : String} {names : List String} {ik is ic : Nat} (hV : zOk V) (hO : ∀ (U : State) (H : Heap), V.2.2.2.2.2 U H → vx_Zq Bundle.tN "UNASSIGNED_STACK" Bundle.steD (zA V) U H ∧ vx_Zq Bundle.tN "SUPPRESSED_SENTINEL" Bundle.listD (zA V) U H ∧ ∃ sa : Nat, vk_R M.1.cls is text sa U)
    (hcls : Bundle.fit cls = true) (hnames : ∀ n ∈ names, Bundle.fit n = true) (w1 : Cond.classLink M.1.cls ik cls ∈ zT) (w2 : Cond.initialized cls ∈ zT) (w3 : ∀ w ∈ vx_atS M.1.cls ic cls names, w ∈ zT) (hgood : ∀ w ∈ Cond.classLink M.1.cls ik cls :: Cond.initialized cls :: vx_atS M.1.cls ic cls names, vx_ot w = true)
    (hn : names.length ≤ 2) (hfr : 6 ≤ fr) (hLl : L.length = M.2.2.1) (hcat : (st.map fun v => v.category).sum ≤ 8)
    (d0 : decode M.2.1 pc = .ok (.new ik, 3)) (d3 : decode M.2.1 (pc + 3) = .ok (.dup, 1)) (d4 : decode M.2.1 (pc + 4) = .ok (.ldc_w is, 3)) (d6 : decode M.2.1 (pc + 7) = .ok (.invokespecial ic, 3)) (d9 : decode M.2.1 (pc + 10) = .ok (.athrow, 1))
    (h : gThrow cls G = some (o, Gf)) : Y V M fr o Gf pc L st G := by
  obtain ⟨rfl, rfl⟩ := Prod.mk.inj (Option.some.inj h)
  refine ⟨⟨Nat.le_add_right _ _, Nat.le_add_right _ _⟩, ?_⟩
  have k7 := Z.throwSW (V := V) (M := M) (fr := fr) (Q := gQ (.inl cls) (G.1 + 6, (G.2.1 + 1, G.2.2))) (QX := gX (.inl cls) (G.1 + 6, (G.2.1 + 1, G.2.2))) (mc := 0) (ms := 0) (pc := pc) (L := L) (st := st) (G := G.2) hV hO hcls hnames w1 w2 w3 hgood hn hfr hLl hcat d0 d3 d4 d6 d9 (fun n hn9 => ⟨rfl, Nat.add_le_add_right hn9 1, rfl⟩)
  rw [show (G.2.1 + 1) - G.2.1 = 0 + 1 by omega, show (G.1 + 6) - G.1 = 0 + 6 by omega]
  exact k7
