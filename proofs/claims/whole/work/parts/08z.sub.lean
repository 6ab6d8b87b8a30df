/-! the tables, row by row -/
theorem zU1 {w : Cond} (i : Nat) (h : tables_1_1[i]? = some w) (hg : zGood w = true) : w ∈ zT := zT_of (List.mem_append_right _ (tu1 _ (List.mem_of_getElem? h))) hg
theorem zU2 {w : Cond} (i : Nat) (h : tables_1_2[i]? = some w) (hg : zGood w = true) : w ∈ zT := zT_of (List.mem_append_right _ (tu2 _ (List.mem_of_getElem? h))) hg
theorem zU3 {w : Cond} (i : Nat) (h : tables_1_3[i]? = some w) (hg : zGood w = true) : w ∈ zT := zT_of (List.mem_append_right _ (tu3 _ (List.mem_of_getElem? h))) hg
theorem zU4 {w : Cond} (i : Nat) (h : tables_1_4[i]? = some w) (hg : zGood w = true) : w ∈ zT := zT_of (List.mem_append_right _ (tu4 _ (List.mem_of_getElem? h))) hg
theorem zU5 {w : Cond} (i : Nat) (h : tables_1_5[i]? = some w) (hg : zGood w = true) : w ∈ zT := zT_of (List.mem_append_right _ (tu5 _ (List.mem_of_getElem? h))) hg
theorem zU6 {w : Cond} (i : Nat) (h : tables_1_6[i]? = some w) (hg : zGood w = true) : w ∈ zT := zT_of (List.mem_append_right _ (tu6 _ (List.mem_of_getElem? h))) hg
theorem zU7 {w : Cond} (i : Nat) (h : tables_1_7[i]? = some w) (hg : zGood w = true) : w ∈ zT := zT_of (List.mem_append_right _ (tu7 _ (List.mem_of_getElem? h))) hg
theorem zU8 {w : Cond} (i : Nat) (h : tables_1_8[i]? = some w) (hg : zGood w = true) : w ∈ zT := zT_of (List.mem_append_right _ (tu8 _ (List.mem_of_getElem? h))) hg
