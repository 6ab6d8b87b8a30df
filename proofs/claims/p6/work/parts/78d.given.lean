theorem zT_all {s : State} {args : Array Value} (hts : ∀ w ∈ lw_tbl, w.before args s = true) : ∀ w ∈ zT, w.before args s = true := by
  intro w hw
  have hw' := (List.mem_filter.mp hw).1
  rcases List.mem_append.mp hw' with h | h
  · have h2 := hts _ (tb5 (i := 65) (w := .selects "java/lang/StringBuilder" ⟨"java/lang/AbstractStringBuilder", "isLatin1", "()Z"⟩ ⟨"java/lang/AbstractStringBuilder", "isLatin1", "()Z"⟩) (by decide +kernel))
    unfold zX at h
    simp only [List.mem_cons, List.not_mem_nil, or_false] at h
    rcases h with rfl | rfl | rfl | rfl | rfl | rfl
    · exact zSelP h2 rfl ⟨by decide, by decide⟩ (hts _ (tb5 (i := 198) (by decide +kernel))) (hts _ (tb5 (i := 199) (by decide +kernel)))
    · exact zSelP h2 rfl ⟨by decide, by decide⟩ (hts _ (tb5 (i := 28) (by decide +kernel))) (hts _ (tb5 (i := 29) (by decide +kernel)))
    · exact zSelP h2 rfl ⟨by decide, by decide⟩ (hts _ (tb5 (i := 71) (by decide +kernel))) (hts _ (tb5 (i := 72) (by decide +kernel)))
    · exact zSelP h2 rfl ⟨by decide, by decide⟩ (hts _ (tb5 (i := 218) (by decide +kernel))) (hts _ (tb5 (i := 219) (by decide +kernel)))
    · exact zSelP h2 rfl ⟨by decide, by decide⟩ (hts _ (tb5 (i := 32) (by decide +kernel))) (hts _ (tb5 (i := 33) (by decide +kernel)))
    · exact zSelP h2 rfl ⟨by decide, by decide⟩ (hts _ (tb5 (i := 214) (by decide +kernel))) (hts _ (tb5 (i := 215) (by decide +kernel)))
  · exact hts w h
