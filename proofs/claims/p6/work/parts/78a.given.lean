theorem f_ix : ([289, 314, 336, 360, 379, 407, 433, 453, 480, 504, 527, 548, 571, 594, 622, 646, 671, 698, 725, 747, 785, 807, 831, 853] : List Nat).map (fun i => F9[i]?) = zStr.map (fun x => some (Cond.exactly (.string x.1 x.2.1) "java/lang/String")) := by decide +kernel
theorem f_refs : ∀ x ∈ zStr, Cond.exactly (.string x.1 x.2.1) "java/lang/String" ∈ F9 := by
  intro x hx
  have h := List.mem_map_of_mem (f := fun x : String × Nat × String => some (Cond.exactly (.string x.1 x.2.1) "java/lang/String")) hx
  rw [← f_ix] at h
  obtain ⟨i, -, h2⟩ := List.mem_map.mp h
  exact List.mem_of_getElem? h2
