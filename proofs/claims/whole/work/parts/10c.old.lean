def rN (ty : FieldType) (x : Int32) (G : gH) : gR := if narrow ty (.int x) = .int x then some (.inr (some (.int x)), G) else none
theorem Y.nret {V : zV} {M : zM} {fr : Nat} {o : gO} {Gf : gH} {pc : Nat} {L : zLs} {st : List Value} {G : gH} {v : Int32} {ty : FieldType} (hr : M.2.2.2 = some ty) (hd : decode M.2.1 pc = .ok (.ireturn, 1)) (h : rN ty v G = some (o, Gf)) : Y V M fr o Gf pc L [.int v] G := by
  unfold rN at h
  split at h
  · next hv =>
    obtain ⟨rfl, rfl⟩ := Prod.mk.inj (Option.some.inj h)
    exact ⟨gLe.rfl', Z.room (Nat.le_refl _) (Nat.zero_le _) (Nat.zero_le _) (Z.iret (st := []) (mc := 0) (ms := 0) hr hv hd ⟨rfl, rfl⟩)⟩
  · cases h
/-- what is told of the old cells: the JDK's statics and the text constants lie at the addresses w -/
def zOld (V : zV) (w : Nat → Nat) : Prop := ∀ (U : State) (H : Heap), V.2.2.2.2.2 U H → va_Z "java/util/ArrayList" "DEFAULTCAPACITY_EMPTY_ELEMENTDATA" "[Ljava/lang/Object;" (.ref (w 0)) (zA V) U H ∧
  va_Z "java/lang/Integer" "DigitOnes" "[B" (.ref (w 1)) (zA V) U H ∧ va_Z "java/lang/Integer" "DigitTens" "[B" (.ref (w 2)) (zA V) U H ∧ va_Z "java/lang/String" "COMPACT_STRINGS" "Z" (.int (nI 1)) (zA V) U H ∧
  vk_R "PartlisterModel" 265 "," (w 3) U ∧ vk_R "PartlisterModel" 263 "" (w 5) U ∧ vk_R "PartlisterModel" 277 "-" (w 7) U ∧ vk_R "Partlister" 220 "-" (w 9) U ∧ va_Mi "[Ljava/lang/Object;" (w 11) U
def zGw (l : Launch) (D : va_G) (B : Nat) (O : State → Heap → Prop) (w : Nat → Nat) : Prop := zG l D B O ∧ zOld (zVm l D B O) w
theorem sf_AB_18 : Cond.fieldLink "java/lang/AbstractStringBuilder" 18 "java/lang/String" "COMPACT_STRINGS" "Z" ∈ zT := zU4 238 (by decide +kernel) rfl
theorem sf_IN_83 : Cond.fieldLink "java/lang/Integer" 83 "java/lang/Integer" "DigitOnes" "[B" ∈ zT := zU5 128 (by decide +kernel) rfl
theorem sf_IN_87 : Cond.fieldLink "java/lang/Integer" 87 "java/lang/Integer" "DigitTens" "[B" ∈ zT := zU5 130 (by decide +kernel) rfl
theorem sf_U6_403 : Cond.fieldLink "java/lang/StringUTF16" 403 "java/lang/Integer" "DigitOnes" "[B" ∈ zT := zU5 147 (by decide +kernel) rfl
theorem sf_U6_407 : Cond.fieldLink "java/lang/StringUTF16" 407 "java/lang/Integer" "DigitTens" "[B" ∈ zT := zU5 148 (by decide +kernel) rfl
theorem sf_ST_38 : Cond.fieldLink "java/lang/String" 38 "java/lang/String" "COMPACT_STRINGS" "Z" ∈ zT := zU5 212 (by decide +kernel) rfl
theorem sf_AL_39 : Cond.fieldLink "java/util/ArrayList" 39 "java/util/ArrayList" "DEFAULTCAPACITY_EMPTY_ELEMENTDATA" "[Ljava/lang/Object;" ∈ zT := zU6 57 (by decide +kernel) rfl
theorem sm_AB_append1 : Cond.sameMethod "java/lang/AbstractStringBuilder" "java/lang/AbstractStringBuilder" "append" "(C)Ljava/lang/AbstractStringBuilder;" ∈ zT := zU8 184 (by decide +kernel) rfl
theorem sm_AB_append2 : Cond.sameMethod "java/lang/AbstractStringBuilder" "java/lang/AbstractStringBuilder" "append" "(I)Ljava/lang/AbstractStringBuilder;" ∈ zT := zU8 188 (by decide +kernel) rfl
theorem sm_AB_append3 : Cond.sameMethod "java/lang/AbstractStringBuilder" "java/lang/AbstractStringBuilder" "append" "(Ljava/lang/String;)Ljava/lang/AbstractStringBuilder;" ∈ zT := zU8 189 (by decide +kernel) rfl
theorem sm_AB_appendNull : Cond.sameMethod "java/lang/AbstractStringBuilder" "java/lang/AbstractStringBuilder" "appendNull" "()Ljava/lang/AbstractStringBuilder;" ∈ zT := zU8 190 (by decide +kernel) rfl
theorem sm_AB_ensureCapacityInternal : Cond.sameMethod "java/lang/AbstractStringBuilder" "java/lang/AbstractStringBuilder" "ensureCapacityInternal" "(I)V" ∈ zT := zU8 185 (by decide +kernel) rfl
theorem sm_AB_getValue : Cond.sameMethod "java/lang/AbstractStringBuilder" "java/lang/AbstractStringBuilder" "getValue" "()[B" ∈ zT := zU5 164 (by decide +kernel) rfl
theorem sm_AB_inflate : Cond.sameMethod "java/lang/AbstractStringBuilder" "java/lang/AbstractStringBuilder" "inflate" "()V" ∈ zT := zU8 187 (by decide +kernel) rfl
theorem sm_AB_inflateIfNeededFor : Cond.sameMethod "java/lang/AbstractStringBuilder" "java/lang/AbstractStringBuilder" "inflateIfNeededFor" "(Ljava/lang/String;)V" ∈ zT := zU8 192 (by decide +kernel) rfl
theorem sm_AB_isLatin1 : Cond.sameMethod "java/lang/AbstractStringBuilder" "java/lang/AbstractStringBuilder" "isLatin1" "()Z" ∈ zT := zU5 64 (by decide +kernel) rfl
theorem sm_AB_length : Cond.sameMethod "java/lang/AbstractStringBuilder" "java/lang/AbstractStringBuilder" "length" "()I" ∈ zT := zU5 169 (by decide +kernel) rfl
theorem sm_AB_newCapacity : Cond.sameMethod "java/lang/AbstractStringBuilder" "java/lang/AbstractStringBuilder" "newCapacity" "(I)I" ∈ zT := zU8 186 (by decide +kernel) rfl
theorem sm_AB_putStringAt : Cond.sameMethod "java/lang/AbstractStringBuilder" "java/lang/AbstractStringBuilder" "putStringAt" "(ILjava/lang/String;)V" ∈ zT := zU8 191 (by decide +kernel) rfl
theorem su_N_OJ : Cond.superclass "Partlister$Numbers" "java/lang/Object" ∈ zT := zU1 54 (by decide +kernel) rfl
theorem su_I_OJ : Cond.superclass "Partlister$Lists" "java/lang/Object" ∈ zT := zU1 81 (by decide +kernel) rfl
theorem su_U_OJ : Cond.superclass "Partlister$Cursors" "java/lang/Object" ∈ zT := zU1 105 (by decide +kernel) rfl
theorem su_X_OJ : Cond.superclass "Partlister" "java/lang/Object" ∈ zT := zU1 121 (by decide +kernel) rfl
theorem su_O_OJ : Cond.superclass "PartlisterLaw$Out" "java/lang/Object" ∈ zT := zU2 118 (by decide +kernel) rfl
theorem su_TH_OJ : Cond.superclass "java/lang/Throwable" "java/lang/Object" ∈ zT := zU2 155 (by decide +kernel) rfl
theorem su_IOE_RX : Cond.superclass "java/lang/IndexOutOfBoundsException" "java/lang/RuntimeException" ∈ zT := zU2 199 (by decide +kernel) rfl
theorem su_IAE_RX : Cond.superclass "java/lang/IllegalArgumentException" "java/lang/RuntimeException" ∈ zT := zU2 220 (by decide +kernel) rfl
theorem su_ISE_RX : Cond.superclass "java/lang/IllegalStateException" "java/lang/RuntimeException" ∈ zT := zU3 1 (by decide +kernel) rfl
theorem su_SB_AB : Cond.superclass "java/lang/StringBuilder" "java/lang/AbstractStringBuilder" ∈ zT := zU5 19 (by decide +kernel) rfl
theorem su_ST_OJ : Cond.superclass "java/lang/String" "java/lang/Object" ∈ zT := zU6 13 (by decide +kernel) rfl
theorem su_AL_AY : Cond.superclass "java/util/ArrayList" "java/util/AbstractList" ∈ zT := zU6 70 (by decide +kernel) rfl
theorem su_M_OJ : Cond.superclass "PartlisterModel" "java/lang/Object" ∈ zT := zU6 148 (by decide +kernel) rfl
theorem su_MP_OJ : Cond.superclass "PartlisterModel$Part" "java/lang/Object" ∈ zT := zU7 180 (by decide +kernel) rfl
theorem su_MC_OJ : Cond.superclass "PartlisterModel$Cursor" "java/lang/Object" ∈ zT := zU7 215 (by decide +kernel) rfl
