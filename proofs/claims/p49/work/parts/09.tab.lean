theorem pqn0 : "Partlister" ≠ "java/lang/invoke/MethodHandle" ∧ "Partlister" ≠ "java/lang/invoke/VarHandle" := ⟨by decide +kernel, by decide +kernel⟩
theorem pqd1 : (parseMethodDescriptor "()V").map (fun d => d.parameters.length) = some 0 := by decide +kernel
theorem pqd2 : (parseMethodDescriptor "(II)I").map (fun d => d.parameters.length) = some 2 := by decide +kernel
theorem pqd3 : (parseMethodDescriptor "(III)I").map (fun d => d.parameters.length) = some 3 := by decide +kernel
theorem pqd4 : (parseMethodDescriptor "(II)Z").map (fun d => d.parameters.length) = some 2 := by decide +kernel
theorem pqd5 : (parseMethodDescriptor "(IIII)V").map (fun d => d.parameters.length) = some 4 := by decide +kernel
theorem pqd6 : (parseMethodDescriptor "(I)I").map (fun d => d.parameters.length) = some 1 := by decide +kernel
theorem pqd7 : (parseMethodDescriptor "()J").map (fun d => d.parameters.length) = some 0 := by decide +kernel
theorem pqd8 : (parseMethodDescriptor "(I)Z").map (fun d => d.parameters.length) = some 1 := by decide +kernel
theorem pqd9 : (parseMethodDescriptor "(II)V").map (fun d => d.parameters.length) = some 2 := by decide +kernel
theorem pqd10 : (parseMethodDescriptor "(III)Z").map (fun d => d.parameters.length) = some 3 := by decide +kernel
theorem pqd11 : (parseMethodDescriptor "(IZ)I").map (fun d => d.parameters.length) = some 2 := by decide +kernel
theorem pqd12 : (parseMethodDescriptor "()Z").map (fun d => d.parameters.length) = some 0 := by decide +kernel
theorem pqd13 : (parseMethodDescriptor "()I").map (fun d => d.parameters.length) = some 0 := by decide +kernel
theorem pqd14 : (parseMethodDescriptor "(JJ)J").map (fun d => d.parameters.length) = some 2 := by decide +kernel
theorem pqd15 : (parseMethodDescriptor "(JI)J").map (fun d => d.parameters.length) = some 2 := by decide +kernel
theorem pqd16 : (parseMethodDescriptor "(JII)J").map (fun d => d.parameters.length) = some 3 := by decide +kernel
theorem pqd17 : (parseMethodDescriptor "(I)V").map (fun d => d.parameters.length) = some 1 := by decide +kernel
theorem pqd18 : (parseMethodDescriptor "(I)Ljava/lang/String;").map (fun d => d.parameters.length) = some 1 := by decide +kernel
theorem pqn19 : "Partlister$Cursors" ≠ "java/lang/invoke/MethodHandle" ∧ "Partlister$Cursors" ≠ "java/lang/invoke/VarHandle" := ⟨by decide +kernel, by decide +kernel⟩
theorem pqd20 : (parseMethodDescriptor "(III)V").map (fun d => d.parameters.length) = some 3 := by decide +kernel
theorem pqn21 : "Partlister$Lists" ≠ "java/lang/invoke/MethodHandle" ∧ "Partlister$Lists" ≠ "java/lang/invoke/VarHandle" := ⟨by decide +kernel, by decide +kernel⟩
theorem pqn22 : "Partlister$Numbers" ≠ "java/lang/invoke/MethodHandle" ∧ "Partlister$Numbers" ≠ "java/lang/invoke/VarHandle" := ⟨by decide +kernel, by decide +kernel⟩
theorem pqn23 : "PartlisterLaw$Out" ≠ "java/lang/invoke/MethodHandle" ∧ "PartlisterLaw$Out" ≠ "java/lang/invoke/VarHandle" := ⟨by decide +kernel, by decide +kernel⟩
theorem pqn24 : "PartlisterModel" ≠ "java/lang/invoke/MethodHandle" ∧ "PartlisterModel" ≠ "java/lang/invoke/VarHandle" := ⟨by decide +kernel, by decide +kernel⟩
theorem pqd25 : (parseMethodDescriptor "([I[II)I").map (fun d => d.parameters.length) = some 3 := by decide +kernel
theorem pqd26 : (parseMethodDescriptor "(II)[I").map (fun d => d.parameters.length) = some 2 := by decide +kernel
theorem pqd27 : (parseMethodDescriptor "(II[I)V").map (fun d => d.parameters.length) = some 3 := by decide +kernel
theorem pqd28 : (parseMethodDescriptor "(I)Ljava/util/ArrayList;").map (fun d => d.parameters.length) = some 1 := by decide +kernel
theorem pqd29 : (parseMethodDescriptor "(IZ)[Z").map (fun d => d.parameters.length) = some 2 := by decide +kernel
theorem pqd30 : (parseMethodDescriptor "(I)[I").map (fun d => d.parameters.length) = some 1 := by decide +kernel
theorem pqd31 : (parseMethodDescriptor "(Z)I").map (fun d => d.parameters.length) = some 1 := by decide +kernel
theorem pqd32 : (parseMethodDescriptor "(Ljava/util/ArrayList;I)V").map (fun d => d.parameters.length) = some 2 := by decide +kernel
theorem pqd33 : (parseMethodDescriptor "(ZI)Z").map (fun d => d.parameters.length) = some 2 := by decide +kernel
theorem pqd34 : (parseMethodDescriptor "(I[Z)I").map (fun d => d.parameters.length) = some 2 := by decide +kernel
theorem pqd35 : (parseMethodDescriptor "(II[I)[I").map (fun d => d.parameters.length) = some 3 := by decide +kernel
theorem pqn36 : "PartlisterModel$Cursor" ≠ "java/lang/invoke/MethodHandle" ∧ "PartlisterModel$Cursor" ≠ "java/lang/invoke/VarHandle" := ⟨by decide +kernel, by decide +kernel⟩
theorem pqn37 : "PartlisterModel$Part" ≠ "java/lang/invoke/MethodHandle" ∧ "PartlisterModel$Part" ≠ "java/lang/invoke/VarHandle" := ⟨by decide +kernel, by decide +kernel⟩
theorem pqn38 : "java/lang/AbstractStringBuilder" ≠ "java/lang/invoke/MethodHandle" ∧ "java/lang/AbstractStringBuilder" ≠ "java/lang/invoke/VarHandle" := ⟨by decide +kernel, by decide +kernel⟩
theorem pqd39 : (parseMethodDescriptor "(C)Ljava/lang/AbstractStringBuilder;").map (fun d => d.parameters.length) = some 1 := by decide +kernel
theorem pqd40 : (parseMethodDescriptor "(I)Ljava/lang/AbstractStringBuilder;").map (fun d => d.parameters.length) = some 1 := by decide +kernel
theorem pqd41 : (parseMethodDescriptor "(Ljava/lang/String;)Ljava/lang/AbstractStringBuilder;").map (fun d => d.parameters.length) = some 1 := by decide +kernel
theorem pqd42 : (parseMethodDescriptor "()Ljava/lang/AbstractStringBuilder;").map (fun d => d.parameters.length) = some 0 := by decide +kernel
theorem pqd43 : (parseMethodDescriptor "()[B").map (fun d => d.parameters.length) = some 0 := by decide +kernel
theorem pqd44 : (parseMethodDescriptor "(Ljava/lang/String;)V").map (fun d => d.parameters.length) = some 1 := by decide +kernel
theorem pqd45 : (parseMethodDescriptor "(ILjava/lang/String;)V").map (fun d => d.parameters.length) = some 2 := by decide +kernel
theorem pqn46 : "java/lang/Exception" ≠ "java/lang/invoke/MethodHandle" ∧ "java/lang/Exception" ≠ "java/lang/invoke/VarHandle" := ⟨by decide +kernel, by decide +kernel⟩
theorem pqn47 : "java/lang/IllegalArgumentException" ≠ "java/lang/invoke/MethodHandle" ∧ "java/lang/IllegalArgumentException" ≠ "java/lang/invoke/VarHandle" := ⟨by decide +kernel, by decide +kernel⟩
theorem pqn48 : "java/lang/IllegalStateException" ≠ "java/lang/invoke/MethodHandle" ∧ "java/lang/IllegalStateException" ≠ "java/lang/invoke/VarHandle" := ⟨by decide +kernel, by decide +kernel⟩
theorem pqn49 : "java/lang/IndexOutOfBoundsException" ≠ "java/lang/invoke/MethodHandle" ∧ "java/lang/IndexOutOfBoundsException" ≠ "java/lang/invoke/VarHandle" := ⟨by decide +kernel, by decide +kernel⟩
theorem pqn50 : "java/lang/Integer" ≠ "java/lang/invoke/MethodHandle" ∧ "java/lang/Integer" ≠ "java/lang/invoke/VarHandle" := ⟨by decide +kernel, by decide +kernel⟩
theorem pqd51 : (parseMethodDescriptor "(II[B)I").map (fun d => d.parameters.length) = some 3 := by decide +kernel
theorem pqn52 : "java/lang/Math" ≠ "java/lang/invoke/MethodHandle" ∧ "java/lang/Math" ≠ "java/lang/invoke/VarHandle" := ⟨by decide +kernel, by decide +kernel⟩
theorem pqn53 : "java/lang/RuntimeException" ≠ "java/lang/invoke/MethodHandle" ∧ "java/lang/RuntimeException" ≠ "java/lang/invoke/VarHandle" := ⟨by decide +kernel, by decide +kernel⟩
theorem pqn54 : "java/lang/String" ≠ "java/lang/invoke/MethodHandle" ∧ "java/lang/String" ≠ "java/lang/invoke/VarHandle" := ⟨by decide +kernel, by decide +kernel⟩
theorem pqd55 : (parseMethodDescriptor "(Ljava/lang/AbstractStringBuilder;Ljava/lang/Void;)V").map (fun d => d.parameters.length) = some 2 := by decide +kernel
theorem pqd56 : (parseMethodDescriptor "(Ljava/lang/StringBuilder;)V").map (fun d => d.parameters.length) = some 1 := by decide +kernel
theorem pqd57 : (parseMethodDescriptor "()B").map (fun d => d.parameters.length) = some 0 := by decide +kernel
theorem pqd58 : (parseMethodDescriptor "([BIB)V").map (fun d => d.parameters.length) = some 3 := by decide +kernel
theorem pqn59 : "java/lang/StringBuilder" ≠ "java/lang/invoke/MethodHandle" ∧ "java/lang/StringBuilder" ≠ "java/lang/invoke/VarHandle" := ⟨by decide +kernel, by decide +kernel⟩
theorem pqd60 : (parseMethodDescriptor "(C)Ljava/lang/StringBuilder;").map (fun d => d.parameters.length) = some 1 := by decide +kernel
theorem pqd61 : (parseMethodDescriptor "(I)Ljava/lang/StringBuilder;").map (fun d => d.parameters.length) = some 1 := by decide +kernel
theorem pqd62 : (parseMethodDescriptor "(Ljava/lang/String;)Ljava/lang/StringBuilder;").map (fun d => d.parameters.length) = some 1 := by decide +kernel
theorem pqd63 : (parseMethodDescriptor "()Ljava/lang/String;").map (fun d => d.parameters.length) = some 0 := by decide +kernel
theorem pqn64 : "java/lang/StringLatin1" ≠ "java/lang/invoke/MethodHandle" ∧ "java/lang/StringLatin1" ≠ "java/lang/invoke/VarHandle" := ⟨by decide +kernel, by decide +kernel⟩
theorem pqd65 : (parseMethodDescriptor "(C)Z").map (fun d => d.parameters.length) = some 1 := by decide +kernel
theorem pqd66 : (parseMethodDescriptor "([BI[BII)V").map (fun d => d.parameters.length) = some 5 := by decide +kernel
theorem pqn67 : "java/lang/StringUTF16" ≠ "java/lang/invoke/MethodHandle" ∧ "java/lang/StringUTF16" ≠ "java/lang/invoke/VarHandle" := ⟨by decide +kernel, by decide +kernel⟩
theorem pqd68 : (parseMethodDescriptor "(II[B)V").map (fun d => d.parameters.length) = some 3 := by decide +kernel
theorem pqd69 : (parseMethodDescriptor "(I[B)V").map (fun d => d.parameters.length) = some 2 := by decide +kernel
theorem pqd70 : (parseMethodDescriptor "([BI)B").map (fun d => d.parameters.length) = some 2 := by decide +kernel
theorem pqd71 : (parseMethodDescriptor "([BII)[B").map (fun d => d.parameters.length) = some 3 := by decide +kernel
theorem pqd72 : (parseMethodDescriptor "([BI[BII)I").map (fun d => d.parameters.length) = some 5 := by decide +kernel
theorem pqd73 : (parseMethodDescriptor "([BI)C").map (fun d => d.parameters.length) = some 2 := by decide +kernel
theorem pqd74 : (parseMethodDescriptor "(III[B)I").map (fun d => d.parameters.length) = some 4 := by decide +kernel
theorem pqd75 : (parseMethodDescriptor "([B)I").map (fun d => d.parameters.length) = some 1 := by decide +kernel
theorem pqd76 : (parseMethodDescriptor "(I)[B").map (fun d => d.parameters.length) = some 1 := by decide +kernel
theorem pqd77 : (parseMethodDescriptor "([BII)V").map (fun d => d.parameters.length) = some 3 := by decide +kernel
theorem pqd78 : (parseMethodDescriptor "([BICCCC)I").map (fun d => d.parameters.length) = some 6 := by decide +kernel
theorem pqn79 : "java/lang/Throwable" ≠ "java/lang/invoke/MethodHandle" ∧ "java/lang/Throwable" ≠ "java/lang/invoke/VarHandle" := ⟨by decide +kernel, by decide +kernel⟩
theorem pqn80 : "java/util/AbstractCollection" ≠ "java/lang/invoke/MethodHandle" ∧ "java/util/AbstractCollection" ≠ "java/lang/invoke/VarHandle" := ⟨by decide +kernel, by decide +kernel⟩
theorem pqn81 : "java/util/AbstractList" ≠ "java/lang/invoke/MethodHandle" ∧ "java/util/AbstractList" ≠ "java/lang/invoke/VarHandle" := ⟨by decide +kernel, by decide +kernel⟩
theorem pqn82 : "java/util/ArrayList" ≠ "java/lang/invoke/MethodHandle" ∧ "java/util/ArrayList" ≠ "java/lang/invoke/VarHandle" := ⟨by decide +kernel, by decide +kernel⟩
theorem pqd83 : (parseMethodDescriptor "(ILjava/lang/Object;)V").map (fun d => d.parameters.length) = some 2 := by decide +kernel
theorem pqd84 : (parseMethodDescriptor "(Ljava/lang/Object;)Z").map (fun d => d.parameters.length) = some 1 := by decide +kernel
theorem pqd85 : (parseMethodDescriptor "(Ljava/lang/Object;[Ljava/lang/Object;I)V").map (fun d => d.parameters.length) = some 3 := by decide +kernel
theorem pqd86 : (parseMethodDescriptor "(I)Ljava/lang/Object;").map (fun d => d.parameters.length) = some 1 := by decide +kernel
theorem pqd87 : (parseMethodDescriptor "([Ljava/lang/Object;I)V").map (fun d => d.parameters.length) = some 2 := by decide +kernel
theorem pqd88 : (parseMethodDescriptor "()[Ljava/lang/Object;").map (fun d => d.parameters.length) = some 0 := by decide +kernel
theorem pqd89 : (parseMethodDescriptor "(I)[Ljava/lang/Object;").map (fun d => d.parameters.length) = some 1 := by decide +kernel
theorem pqd90 : (parseMethodDescriptor "(ILjava/lang/Object;)Ljava/lang/Object;").map (fun d => d.parameters.length) = some 2 := by decide +kernel
theorem pqn91 : "java/util/Arrays" ≠ "java/lang/invoke/MethodHandle" ∧ "java/util/Arrays" ≠ "java/lang/invoke/VarHandle" := ⟨by decide +kernel, by decide +kernel⟩
theorem pqd92 : (parseMethodDescriptor "([BI)[B").map (fun d => d.parameters.length) = some 2 := by decide +kernel
theorem pqd93 : (parseMethodDescriptor "([Ljava/lang/Object;I)[Ljava/lang/Object;").map (fun d => d.parameters.length) = some 2 := by decide +kernel
theorem pqd94 : (parseMethodDescriptor "([Ljava/lang/Object;ILjava/lang/Class;)[Ljava/lang/Object;").map (fun d => d.parameters.length) = some 3 := by decide +kernel
theorem pqn95 : "java/util/Objects" ≠ "java/lang/invoke/MethodHandle" ∧ "java/util/Objects" ≠ "java/lang/invoke/VarHandle" := ⟨by decide +kernel, by decide +kernel⟩
theorem pqn96 : "jdk/internal/util/ArraysSupport" ≠ "java/lang/invoke/MethodHandle" ∧ "jdk/internal/util/ArraysSupport" ≠ "java/lang/invoke/VarHandle" := ⟨by decide +kernel, by decide +kernel⟩
theorem pqn97 : "jdk/internal/util/Preconditions" ≠ "java/lang/invoke/MethodHandle" ∧ "jdk/internal/util/Preconditions" ≠ "java/lang/invoke/VarHandle" := ⟨by decide +kernel, by decide +kernel⟩
theorem pqd98 : (parseMethodDescriptor "(IIILjava/util/function/BiFunction;)I").map (fun d => d.parameters.length) = some 4 := by decide +kernel
theorem pqd99 : (parseMethodDescriptor "(IILjava/util/function/BiFunction;)I").map (fun d => d.parameters.length) = some 3 := by decide +kernel
def T_U : u_T := fun k => match k with
  | 0 => ("Partlister$Cursors", "states", "LPartlister$Numbers;", true)
  | 1 => ("Partlister$Cursors", "on", "LPartlister$Numbers;", true)
  | 2 => ("Partlister$Cursors", "nexts", "LPartlister$Numbers;", true)
  | 3 => ("Partlister$Cursors", "lasts", "LPartlister$Numbers;", true)
  | _ => ("Partlister$Cursors", "ended", "I", false)
def y_U : Nat → FieldType := fun k => match k with
  | 0 => (.object "Partlister$Numbers")
  | 1 => (.object "Partlister$Numbers")
  | 2 => (.object "Partlister$Numbers")
  | 3 => (.object "Partlister$Numbers")
  | _ => .int
theorem ty_U : ∀ j, j < 5 → parseFieldDescriptor (T_U j).2.2.1 = some (y_U j) := by decide +kernel
theorem nm_U : ∀ a, a < 5 → ∀ b, b < 5 → a ≠ b → (T_U a).2.1 ≠ (T_U b).2.1 := by decide +kernel
theorem uw_U : ∀ w ∈ u_ws "Partlister$Cursors" T_U 5, w ∈ zT := by
  show ∀ w ∈ ([.laysFinal "Partlister$Cursors" "Partlister$Cursors" "states" "LPartlister$Numbers;", .laysFinal "Partlister$Cursors" "Partlister$Cursors" "on" "LPartlister$Numbers;", .laysFinal "Partlister$Cursors" "Partlister$Cursors" "nexts" "LPartlister$Numbers;", .laysFinal "Partlister$Cursors" "Partlister$Cursors" "lasts" "LPartlister$Numbers;", .lays "Partlister$Cursors" "Partlister$Cursors" "ended" "I"] : List Cond), w ∈ zT
  exact List.forall_mem_cons.mpr ⟨zU1 95 (by decide +kernel) rfl, List.forall_mem_cons.mpr ⟨zU1 97 (by decide +kernel) rfl, List.forall_mem_cons.mpr ⟨zU1 99 (by decide +kernel) rfl, List.forall_mem_cons.mpr ⟨zU1 101 (by decide +kernel) rfl, List.forall_mem_cons.mpr ⟨zU1 103 (by decide +kernel) rfl, fun _ h => absurd h List.not_mem_nil⟩⟩⟩⟩⟩
def T_I : u_T := fun k => match k with
  | 0 => ("Partlister$Lists", "things", "LPartlister$Numbers;", true)
  | 1 => ("Partlister$Lists", "lengths", "LPartlister$Numbers;", true)
  | 2 => ("Partlister$Lists", "aboves", "LPartlister$Numbers;", true)
  | 3 => ("Partlister$Lists", "rows", "LPartlister$Numbers;", true)
  | 4 => ("Partlister$Lists", "starts", "LPartlister$Numbers;", true)
  | 5 => ("Partlister$Lists", "spare", "LPartlister$Numbers;", true)
  | _ => ("Partlister$Lists", "ended", "I", false)
def y_I : Nat → FieldType := fun k => match k with
  | 0 => (.object "Partlister$Numbers")
  | 1 => (.object "Partlister$Numbers")
  | 2 => (.object "Partlister$Numbers")
  | 3 => (.object "Partlister$Numbers")
  | 4 => (.object "Partlister$Numbers")
  | 5 => (.object "Partlister$Numbers")
  | _ => .int
theorem ty_I : ∀ j, j < 7 → parseFieldDescriptor (T_I j).2.2.1 = some (y_I j) := by decide +kernel
theorem nm_I : ∀ a, a < 7 → ∀ b, b < 7 → a ≠ b → (T_I a).2.1 ≠ (T_I b).2.1 := by decide +kernel
theorem uw_I : ∀ w ∈ u_ws "Partlister$Lists" T_I 7, w ∈ zT := by
  show ∀ w ∈ ([.laysFinal "Partlister$Lists" "Partlister$Lists" "things" "LPartlister$Numbers;", .laysFinal "Partlister$Lists" "Partlister$Lists" "lengths" "LPartlister$Numbers;", .laysFinal "Partlister$Lists" "Partlister$Lists" "aboves" "LPartlister$Numbers;", .laysFinal "Partlister$Lists" "Partlister$Lists" "rows" "LPartlister$Numbers;", .laysFinal "Partlister$Lists" "Partlister$Lists" "starts" "LPartlister$Numbers;", .laysFinal "Partlister$Lists" "Partlister$Lists" "spare" "LPartlister$Numbers;", .lays "Partlister$Lists" "Partlister$Lists" "ended" "I"] : List Cond), w ∈ zT
  exact List.forall_mem_cons.mpr ⟨zU1 67 (by decide +kernel) rfl, List.forall_mem_cons.mpr ⟨zU1 69 (by decide +kernel) rfl, List.forall_mem_cons.mpr ⟨zU1 71 (by decide +kernel) rfl, List.forall_mem_cons.mpr ⟨zU1 73 (by decide +kernel) rfl, List.forall_mem_cons.mpr ⟨zU1 75 (by decide +kernel) rfl, List.forall_mem_cons.mpr ⟨zU1 77 (by decide +kernel) rfl, List.forall_mem_cons.mpr ⟨zU1 79 (by decide +kernel) rfl, fun _ h => absurd h List.not_mem_nil⟩⟩⟩⟩⟩⟩⟩
def T_N : u_T := fun k => match k with
  | _ => ("Partlister$Numbers", "cells", "[I", true)
def y_N : Nat → FieldType := fun k => match k with
  | _ => (.array .int)
theorem ty_N : ∀ j, j < 1 → parseFieldDescriptor (T_N j).2.2.1 = some (y_N j) := by decide +kernel
theorem nm_N : ∀ a, a < 1 → ∀ b, b < 1 → a ≠ b → (T_N a).2.1 ≠ (T_N b).2.1 := by decide +kernel
theorem uw_N : ∀ w ∈ u_ws "Partlister$Numbers" T_N 1, w ∈ zT := by
  show ∀ w ∈ ([.laysFinal "Partlister$Numbers" "Partlister$Numbers" "cells" "[I"] : List Cond), w ∈ zT
  exact List.forall_mem_cons.mpr ⟨zU1 52 (by decide +kernel) rfl, fun _ h => absurd h List.not_mem_nil⟩
def T_X : u_T := fun k => match k with
  | 0 => ("Partlister", "lists", "LPartlister$Lists;", true)
  | 1 => ("Partlister", "cursors", "LPartlister$Cursors;", true)
  | 2 => ("Partlister", "made", "I", false)
  | 3 => ("Partlister", "failures", "I", false)
  | _ => ("Partlister", "refused", "I", false)
def y_X : Nat → FieldType := fun k => match k with
  | 0 => (.object "Partlister$Lists")
  | 1 => (.object "Partlister$Cursors")
  | 2 => .int
  | 3 => .int
  | _ => .int
theorem ty_X : ∀ j, j < 5 → parseFieldDescriptor (T_X j).2.2.1 = some (y_X j) := by decide +kernel
theorem nm_X : ∀ a, a < 5 → ∀ b, b < 5 → a ≠ b → (T_X a).2.1 ≠ (T_X b).2.1 := by decide +kernel
theorem uw_X : ∀ w ∈ u_ws "Partlister" T_X 5, w ∈ zT := by
  show ∀ w ∈ ([.laysFinal "Partlister" "Partlister" "lists" "LPartlister$Lists;", .laysFinal "Partlister" "Partlister" "cursors" "LPartlister$Cursors;", .lays "Partlister" "Partlister" "made" "I", .lays "Partlister" "Partlister" "failures" "I", .lays "Partlister" "Partlister" "refused" "I"] : List Cond), w ∈ zT
  exact List.forall_mem_cons.mpr ⟨zU1 111 (by decide +kernel) rfl, List.forall_mem_cons.mpr ⟨zU1 113 (by decide +kernel) rfl, List.forall_mem_cons.mpr ⟨zU1 115 (by decide +kernel) rfl, List.forall_mem_cons.mpr ⟨zU1 117 (by decide +kernel) rfl, List.forall_mem_cons.mpr ⟨zU1 119 (by decide +kernel) rfl, fun _ h => absurd h List.not_mem_nil⟩⟩⟩⟩⟩
def T_MC : u_T := fun k => match k with
  | 0 => ("PartlisterModel$Cursor", "list", "I", false)
  | 1 => ("PartlisterModel$Cursor", "next", "I", false)
  | 2 => ("PartlisterModel$Cursor", "last", "I", false)
  | _ => ("PartlisterModel$Cursor", "isStale", "Z", false)
def y_MC : Nat → FieldType := fun k => match k with
  | 0 => .int
  | 1 => .int
  | 2 => .int
  | _ => .boolean
theorem ty_MC : ∀ j, j < 4 → parseFieldDescriptor (T_MC j).2.2.1 = some (y_MC j) := by decide +kernel
theorem nm_MC : ∀ a, a < 4 → ∀ b, b < 4 → a ≠ b → (T_MC a).2.1 ≠ (T_MC b).2.1 := by decide +kernel
theorem uw_MC : ∀ w ∈ u_ws "PartlisterModel$Cursor" T_MC 4, w ∈ zT := by
  show ∀ w ∈ ([.lays "PartlisterModel$Cursor" "PartlisterModel$Cursor" "list" "I", .lays "PartlisterModel$Cursor" "PartlisterModel$Cursor" "next" "I", .lays "PartlisterModel$Cursor" "PartlisterModel$Cursor" "last" "I", .lays "PartlisterModel$Cursor" "PartlisterModel$Cursor" "isStale" "Z"] : List Cond), w ∈ zT
  exact List.forall_mem_cons.mpr ⟨zU7 203 (by decide +kernel) rfl, List.forall_mem_cons.mpr ⟨zU7 205 (by decide +kernel) rfl, List.forall_mem_cons.mpr ⟨zU7 207 (by decide +kernel) rfl, List.forall_mem_cons.mpr ⟨zU7 209 (by decide +kernel) rfl, fun _ h => absurd h List.not_mem_nil⟩⟩⟩⟩
def T_MP : u_T := fun k => match k with
  | 0 => ("PartlisterModel$Part", "of", "I", false)
  | 1 => ("PartlisterModel$Part", "from", "I", false)
  | _ => ("PartlisterModel$Part", "length", "I", false)
def y_MP : Nat → FieldType := fun k => match k with
  | 0 => .int
  | 1 => .int
  | _ => .int
theorem ty_MP : ∀ j, j < 3 → parseFieldDescriptor (T_MP j).2.2.1 = some (y_MP j) := by decide +kernel
theorem nm_MP : ∀ a, a < 3 → ∀ b, b < 3 → a ≠ b → (T_MP a).2.1 ≠ (T_MP b).2.1 := by decide +kernel
theorem uw_MP : ∀ w ∈ u_ws "PartlisterModel$Part" T_MP 3, w ∈ zT := by
  show ∀ w ∈ ([.lays "PartlisterModel$Part" "PartlisterModel$Part" "of" "I", .lays "PartlisterModel$Part" "PartlisterModel$Part" "from" "I", .lays "PartlisterModel$Part" "PartlisterModel$Part" "length" "I"] : List Cond), w ∈ zT
  exact List.forall_mem_cons.mpr ⟨zU7 170 (by decide +kernel) rfl, List.forall_mem_cons.mpr ⟨zU7 172 (by decide +kernel) rfl, List.forall_mem_cons.mpr ⟨zU7 174 (by decide +kernel) rfl, fun _ h => absurd h List.not_mem_nil⟩⟩⟩
def T_M : u_T := fun k => match k with
  | 0 => ("PartlisterModel", "thrown", "I", false)
  | 1 => ("PartlisterModel", "rows", "Ljava/util/ArrayList;", true)
  | 2 => ("PartlisterModel", "parts", "[LPartlisterModel$Part;", true)
  | 3 => ("PartlisterModel", "cursors", "[LPartlisterModel$Cursor;", true)
  | 4 => ("PartlisterModel", "made", "I", false)
  | 5 => ("PartlisterModel", "partsOver", "I", false)
  | 6 => ("PartlisterModel", "cursorsOver", "I", false)
  | 7 => ("PartlisterModel", "faults", "I", false)
  | _ => ("PartlisterModel", "refused", "I", false)
def y_M : Nat → FieldType := fun k => match k with
  | 0 => .int
  | 1 => (.object "java/util/ArrayList")
  | 2 => (.array (.object "PartlisterModel$Part"))
  | 3 => (.array (.object "PartlisterModel$Cursor"))
  | 4 => .int
  | 5 => .int
  | 6 => .int
  | 7 => .int
  | _ => .int
theorem ty_M : ∀ j, j < 9 → parseFieldDescriptor (T_M j).2.2.1 = some (y_M j) := by decide +kernel
theorem nm_M : ∀ a, a < 9 → ∀ b, b < 9 → a ≠ b → (T_M a).2.1 ≠ (T_M b).2.1 := by decide +kernel
theorem uw_M : ∀ w ∈ u_ws "PartlisterModel" T_M 9, w ∈ zT := by
  show ∀ w ∈ ([.lays "PartlisterModel" "PartlisterModel" "thrown" "I", .laysFinal "PartlisterModel" "PartlisterModel" "rows" "Ljava/util/ArrayList;", .laysFinal "PartlisterModel" "PartlisterModel" "parts" "[LPartlisterModel$Part;", .laysFinal "PartlisterModel" "PartlisterModel" "cursors" "[LPartlisterModel$Cursor;", .lays "PartlisterModel" "PartlisterModel" "made" "I", .lays "PartlisterModel" "PartlisterModel" "partsOver" "I", .lays "PartlisterModel" "PartlisterModel" "cursorsOver" "I", .lays "PartlisterModel" "PartlisterModel" "faults" "I", .lays "PartlisterModel" "PartlisterModel" "refused" "I"] : List Cond), w ∈ zT
  exact List.forall_mem_cons.mpr ⟨zU6 130 (by decide +kernel) rfl, List.forall_mem_cons.mpr ⟨zU6 132 (by decide +kernel) rfl, List.forall_mem_cons.mpr ⟨zU6 134 (by decide +kernel) rfl, List.forall_mem_cons.mpr ⟨zU6 136 (by decide +kernel) rfl, List.forall_mem_cons.mpr ⟨zU6 138 (by decide +kernel) rfl, List.forall_mem_cons.mpr ⟨zU6 140 (by decide +kernel) rfl, List.forall_mem_cons.mpr ⟨zU6 142 (by decide +kernel) rfl, List.forall_mem_cons.mpr ⟨zU6 144 (by decide +kernel) rfl, List.forall_mem_cons.mpr ⟨zU6 146 (by decide +kernel) rfl, fun _ h => absurd h List.not_mem_nil⟩⟩⟩⟩⟩⟩⟩⟩⟩
def T_O : u_T := fun k => match k with
  | 0 => ("PartlisterLaw$Out", "n", "J", false)
  | _ => ("PartlisterLaw$Out", "s", "Ljava/lang/String;", false)
def y_O : Nat → FieldType := fun k => match k with
  | 0 => .long
  | _ => (.object "java/lang/String")
theorem ty_O : ∀ j, j < 2 → parseFieldDescriptor (T_O j).2.2.1 = some (y_O j) := by decide +kernel
theorem nm_O : ∀ a, a < 2 → ∀ b, b < 2 → a ≠ b → (T_O a).2.1 ≠ (T_O b).2.1 := by decide +kernel
theorem uw_O : ∀ w ∈ u_ws "PartlisterLaw$Out" T_O 2, w ∈ zT := by
  show ∀ w ∈ ([.lays "PartlisterLaw$Out" "PartlisterLaw$Out" "n" "J", .lays "PartlisterLaw$Out" "PartlisterLaw$Out" "s" "Ljava/lang/String;"] : List Cond), w ∈ zT
  exact List.forall_mem_cons.mpr ⟨zU2 114 (by decide +kernel) rfl, List.forall_mem_cons.mpr ⟨zU2 116 (by decide +kernel) rfl, fun _ h => absurd h List.not_mem_nil⟩⟩
def T_ST : u_T := fun k => match k with
  | 0 => ("java/lang/String", "value", "[B", true)
  | 1 => ("java/lang/String", "coder", "B", true)
  | 2 => ("java/lang/String", "hash", "I", false)
  | _ => ("java/lang/String", "hashIsZero", "Z", false)
def y_ST : Nat → FieldType := fun k => match k with
  | 0 => (.array .byte)
  | 1 => .byte
  | 2 => .int
  | _ => .boolean
theorem ty_ST : ∀ j, j < 4 → parseFieldDescriptor (T_ST j).2.2.1 = some (y_ST j) := by decide +kernel
theorem nm_ST : ∀ a, a < 4 → ∀ b, b < 4 → a ≠ b → (T_ST a).2.1 ≠ (T_ST b).2.1 := by decide +kernel
theorem uw_ST : ∀ w ∈ u_ws "java/lang/String" T_ST 4, w ∈ zT := by
  show ∀ w ∈ ([.laysFinal "java/lang/String" "java/lang/String" "value" "[B", .laysFinal "java/lang/String" "java/lang/String" "coder" "B", .lays "java/lang/String" "java/lang/String" "hash" "I", .lays "java/lang/String" "java/lang/String" "hashIsZero" "Z"] : List Cond), w ∈ zT
  exact List.forall_mem_cons.mpr ⟨zU6 5 (by decide +kernel) rfl, List.forall_mem_cons.mpr ⟨zU6 7 (by decide +kernel) rfl, List.forall_mem_cons.mpr ⟨zU6 9 (by decide +kernel) rfl, List.forall_mem_cons.mpr ⟨zU6 11 (by decide +kernel) rfl, fun _ h => absurd h List.not_mem_nil⟩⟩⟩⟩
def T_AL : u_T := fun k => match k with
  | 0 => ("java/util/ArrayList", "elementData", "[Ljava/lang/Object;", false)
  | 1 => ("java/util/ArrayList", "size", "I", false)
  | _ => ("java/util/AbstractList", "modCount", "I", false)
def y_AL : Nat → FieldType := fun k => match k with
  | 0 => (.array (.object "java/lang/Object"))
  | 1 => .int
  | _ => .int
theorem ty_AL : ∀ j, j < 3 → parseFieldDescriptor (T_AL j).2.2.1 = some (y_AL j) := by decide +kernel
theorem nm_AL : ∀ a, a < 3 → ∀ b, b < 3 → a ≠ b → (T_AL a).2.1 ≠ (T_AL b).2.1 := by decide +kernel
theorem uw_AL : ∀ w ∈ u_ws "java/util/ArrayList" T_AL 3, w ∈ zT := by
  show ∀ w ∈ ([.lays "java/util/ArrayList" "java/util/ArrayList" "elementData" "[Ljava/lang/Object;", .lays "java/util/ArrayList" "java/util/ArrayList" "size" "I", .lays "java/util/ArrayList" "java/util/AbstractList" "modCount" "I"] : List Cond), w ∈ zT
  exact List.forall_mem_cons.mpr ⟨zU6 64 (by decide +kernel) rfl, List.forall_mem_cons.mpr ⟨zU6 66 (by decide +kernel) rfl, List.forall_mem_cons.mpr ⟨zU6 68 (by decide +kernel) rfl, fun _ h => absurd h List.not_mem_nil⟩⟩⟩
def T_SB : u_T := fun k => match k with
  | 0 => ("java/lang/AbstractStringBuilder", "value", "[B", false)
  | 1 => ("java/lang/AbstractStringBuilder", "coder", "B", false)
  | 2 => ("java/lang/AbstractStringBuilder", "maybeLatin1", "Z", false)
  | _ => ("java/lang/AbstractStringBuilder", "count", "I", false)
def y_SB : Nat → FieldType := fun k => match k with
  | 0 => (.array .byte)
  | 1 => .byte
  | 2 => .boolean
  | _ => .int
theorem ty_SB : ∀ j, j < 4 → parseFieldDescriptor (T_SB j).2.2.1 = some (y_SB j) := by decide +kernel
theorem nm_SB : ∀ a, a < 4 → ∀ b, b < 4 → a ≠ b → (T_SB a).2.1 ≠ (T_SB b).2.1 := by decide +kernel
theorem uw_SB : ∀ w ∈ u_ws "java/lang/StringBuilder" T_SB 4, w ∈ zT := by
  show ∀ w ∈ ([.lays "java/lang/StringBuilder" "java/lang/AbstractStringBuilder" "value" "[B", .lays "java/lang/StringBuilder" "java/lang/AbstractStringBuilder" "coder" "B", .lays "java/lang/StringBuilder" "java/lang/AbstractStringBuilder" "maybeLatin1" "Z", .lays "java/lang/StringBuilder" "java/lang/AbstractStringBuilder" "count" "I"] : List Cond), w ∈ zT
  exact List.forall_mem_cons.mpr ⟨zU5 11 (by decide +kernel) rfl, List.forall_mem_cons.mpr ⟨zU5 13 (by decide +kernel) rfl, List.forall_mem_cons.mpr ⟨zU5 15 (by decide +kernel) rfl, List.forall_mem_cons.mpr ⟨zU5 17 (by decide +kernel) rfl, fun _ h => absurd h List.not_mem_nil⟩⟩⟩⟩
def zCl : List vw_C := [("Partlister$Cursors", T_U, 5), ("Partlister$Lists", T_I, 7), ("Partlister$Numbers", T_N, 1), ("Partlister", T_X, 5), ("PartlisterModel$Cursor", T_MC, 4), ("PartlisterModel$Part", T_MP, 3), ("PartlisterModel", T_M, 9), ("PartlisterLaw$Out", T_O, 2), ("java/lang/String", T_ST, 4), ("java/util/ArrayList", T_AL, 3), ("java/lang/StringBuilder", T_SB, 4)]
def zTys : List (Nat × FieldType) := [(100, .int), (101, .byte), (102, .boolean), (103, .object "java/lang/Object"), (104, .object "PartlisterModel$Part"), (105, .object "PartlisterModel$Cursor")]
theorem bk_U : zBlank zCl 0 [.null, .null, .null, .null, .int 0] := by
  intro C T N h j hj
  obtain ⟨rfl, rfl, rfl⟩ : C = "Partlister$Cursors" ∧ T = T_U ∧ N = 5 := by
    have h1 := Option.some.inj h
    exact ⟨(congrArg Prod.fst h1).symm, (congrArg (fun q => q.2.1) h1).symm, (congrArg (fun q => q.2.2) h1).symm⟩
  exact (by decide +kernel : ∀ j, j < 5 → (parseFieldDescriptor (T_U j).2.2.1).map defaultValue = some (vp_V [.null, .null, .null, .null, .int 0] j)) j hj
theorem bk_I : zBlank zCl 1 [.null, .null, .null, .null, .null, .null, .int 0] := by
  intro C T N h j hj
  obtain ⟨rfl, rfl, rfl⟩ : C = "Partlister$Lists" ∧ T = T_I ∧ N = 7 := by
    have h1 := Option.some.inj h
    exact ⟨(congrArg Prod.fst h1).symm, (congrArg (fun q => q.2.1) h1).symm, (congrArg (fun q => q.2.2) h1).symm⟩
  exact (by decide +kernel : ∀ j, j < 7 → (parseFieldDescriptor (T_I j).2.2.1).map defaultValue = some (vp_V [.null, .null, .null, .null, .null, .null, .int 0] j)) j hj
theorem bk_N : zBlank zCl 2 [.null] := by
  intro C T N h j hj
  obtain ⟨rfl, rfl, rfl⟩ : C = "Partlister$Numbers" ∧ T = T_N ∧ N = 1 := by
    have h1 := Option.some.inj h
    exact ⟨(congrArg Prod.fst h1).symm, (congrArg (fun q => q.2.1) h1).symm, (congrArg (fun q => q.2.2) h1).symm⟩
  exact (by decide +kernel : ∀ j, j < 1 → (parseFieldDescriptor (T_N j).2.2.1).map defaultValue = some (vp_V [.null] j)) j hj
theorem bk_X : zBlank zCl 3 [.null, .null, .int 0, .int 0, .int 0] := by
  intro C T N h j hj
  obtain ⟨rfl, rfl, rfl⟩ : C = "Partlister" ∧ T = T_X ∧ N = 5 := by
    have h1 := Option.some.inj h
    exact ⟨(congrArg Prod.fst h1).symm, (congrArg (fun q => q.2.1) h1).symm, (congrArg (fun q => q.2.2) h1).symm⟩
  exact (by decide +kernel : ∀ j, j < 5 → (parseFieldDescriptor (T_X j).2.2.1).map defaultValue = some (vp_V [.null, .null, .int 0, .int 0, .int 0] j)) j hj
theorem bk_MC : zBlank zCl 4 [.int 0, .int 0, .int 0, .int 0] := by
  intro C T N h j hj
  obtain ⟨rfl, rfl, rfl⟩ : C = "PartlisterModel$Cursor" ∧ T = T_MC ∧ N = 4 := by
    have h1 := Option.some.inj h
    exact ⟨(congrArg Prod.fst h1).symm, (congrArg (fun q => q.2.1) h1).symm, (congrArg (fun q => q.2.2) h1).symm⟩
  exact (by decide +kernel : ∀ j, j < 4 → (parseFieldDescriptor (T_MC j).2.2.1).map defaultValue = some (vp_V [.int 0, .int 0, .int 0, .int 0] j)) j hj
theorem bk_MP : zBlank zCl 5 [.int 0, .int 0, .int 0] := by
  intro C T N h j hj
  obtain ⟨rfl, rfl, rfl⟩ : C = "PartlisterModel$Part" ∧ T = T_MP ∧ N = 3 := by
    have h1 := Option.some.inj h
    exact ⟨(congrArg Prod.fst h1).symm, (congrArg (fun q => q.2.1) h1).symm, (congrArg (fun q => q.2.2) h1).symm⟩
  exact (by decide +kernel : ∀ j, j < 3 → (parseFieldDescriptor (T_MP j).2.2.1).map defaultValue = some (vp_V [.int 0, .int 0, .int 0] j)) j hj
theorem bk_M : zBlank zCl 6 [.int 0, .null, .null, .null, .int 0, .int 0, .int 0, .int 0, .int 0] := by
  intro C T N h j hj
  obtain ⟨rfl, rfl, rfl⟩ : C = "PartlisterModel" ∧ T = T_M ∧ N = 9 := by
    have h1 := Option.some.inj h
    exact ⟨(congrArg Prod.fst h1).symm, (congrArg (fun q => q.2.1) h1).symm, (congrArg (fun q => q.2.2) h1).symm⟩
  exact (by decide +kernel : ∀ j, j < 9 → (parseFieldDescriptor (T_M j).2.2.1).map defaultValue = some (vp_V [.int 0, .null, .null, .null, .int 0, .int 0, .int 0, .int 0, .int 0] j)) j hj
theorem bk_O : zBlank zCl 7 [.long 0, .null] := by
  intro C T N h j hj
  obtain ⟨rfl, rfl, rfl⟩ : C = "PartlisterLaw$Out" ∧ T = T_O ∧ N = 2 := by
    have h1 := Option.some.inj h
    exact ⟨(congrArg Prod.fst h1).symm, (congrArg (fun q => q.2.1) h1).symm, (congrArg (fun q => q.2.2) h1).symm⟩
  exact (by decide +kernel : ∀ j, j < 2 → (parseFieldDescriptor (T_O j).2.2.1).map defaultValue = some (vp_V [.long 0, .null] j)) j hj
theorem bk_ST : zBlank zCl 8 [.null, .int 0, .int 0, .int 0] := by
  intro C T N h j hj
  obtain ⟨rfl, rfl, rfl⟩ : C = "java/lang/String" ∧ T = T_ST ∧ N = 4 := by
    have h1 := Option.some.inj h
    exact ⟨(congrArg Prod.fst h1).symm, (congrArg (fun q => q.2.1) h1).symm, (congrArg (fun q => q.2.2) h1).symm⟩
  exact (by decide +kernel : ∀ j, j < 4 → (parseFieldDescriptor (T_ST j).2.2.1).map defaultValue = some (vp_V [.null, .int 0, .int 0, .int 0] j)) j hj
theorem bk_AL : zBlank zCl 9 [.null, .int 0, .int 0] := by
  intro C T N h j hj
  obtain ⟨rfl, rfl, rfl⟩ : C = "java/util/ArrayList" ∧ T = T_AL ∧ N = 3 := by
    have h1 := Option.some.inj h
    exact ⟨(congrArg Prod.fst h1).symm, (congrArg (fun q => q.2.1) h1).symm, (congrArg (fun q => q.2.2) h1).symm⟩
  exact (by decide +kernel : ∀ j, j < 3 → (parseFieldDescriptor (T_AL j).2.2.1).map defaultValue = some (vp_V [.null, .int 0, .int 0] j)) j hj
theorem bk_SB : zBlank zCl 10 [.null, .int 0, .int 0, .int 0] := by
  intro C T N h j hj
  obtain ⟨rfl, rfl, rfl⟩ : C = "java/lang/StringBuilder" ∧ T = T_SB ∧ N = 4 := by
    have h1 := Option.some.inj h
    exact ⟨(congrArg Prod.fst h1).symm, (congrArg (fun q => q.2.1) h1).symm, (congrArg (fun q => q.2.2) h1).symm⟩
  exact (by decide +kernel : ∀ j, j < 4 → (parseFieldDescriptor (T_SB j).2.2.1).map defaultValue = some (vp_V [.null, .int 0, .int 0, .int 0] j)) j hj
theorem ini_L : Cond.initialized "PartlisterLaw" ∈ zT := zU1 0 (by decide +kernel) g_initialized
theorem ini_X : Cond.initialized "Partlister" ∈ zT := zU1 1 (by decide +kernel) g_initialized
theorem ini_I : Cond.initialized "Partlister$Lists" ∈ zT := zU1 2 (by decide +kernel) g_initialized
theorem ini_N : Cond.initialized "Partlister$Numbers" ∈ zT := zU1 3 (by decide +kernel) g_initialized
theorem ini_U : Cond.initialized "Partlister$Cursors" ∈ zT := zU1 4 (by decide +kernel) g_initialized
theorem ini_M : Cond.initialized "PartlisterModel" ∈ zT := zU1 5 (by decide +kernel) g_initialized
theorem ini_AC : Cond.initialized "java/util/AbstractCollection" ∈ zT := zU1 6 (by decide +kernel) g_initialized
theorem ini_AY : Cond.initialized "java/util/AbstractList" ∈ zT := zU1 7 (by decide +kernel) g_initialized
theorem ini_AL : Cond.initialized "java/util/ArrayList" ∈ zT := zU1 8 (by decide +kernel) g_initialized
theorem ini_AS : Cond.initialized "jdk/internal/util/ArraysSupport" ∈ zT := zU1 9 (by decide +kernel) g_initialized
theorem ini_MA : Cond.initialized "java/lang/Math" ∈ zT := zU1 10 (by decide +kernel) g_initialized
theorem ini_AR : Cond.initialized "java/util/Arrays" ∈ zT := zU1 11 (by decide +kernel) g_initialized
theorem ini_SY : Cond.initialized "java/lang/System" ∈ zT := zU1 12 (by decide +kernel) g_initialized
theorem ini_O : Cond.initialized "PartlisterLaw$Out" ∈ zT := zU1 13 (by decide +kernel) g_initialized
theorem ini_TH : Cond.initialized "java/lang/Throwable" ∈ zT := zU1 14 (by decide +kernel) g_initialized
theorem ini_EX : Cond.initialized "java/lang/Exception" ∈ zT := zU1 15 (by decide +kernel) g_initialized
theorem ini_RX : Cond.initialized "java/lang/RuntimeException" ∈ zT := zU1 16 (by decide +kernel) g_initialized
theorem ini_IOE : Cond.initialized "java/lang/IndexOutOfBoundsException" ∈ zT := zU1 17 (by decide +kernel) g_initialized
theorem ini_IAE : Cond.initialized "java/lang/IllegalArgumentException" ∈ zT := zU1 18 (by decide +kernel) g_initialized
theorem ini_ISE : Cond.initialized "java/lang/IllegalStateException" ∈ zT := zU1 19 (by decide +kernel) g_initialized
theorem ini_OB : Cond.initialized "java/util/Objects" ∈ zT := zU1 20 (by decide +kernel) g_initialized
theorem ini_PC : Cond.initialized "jdk/internal/util/Preconditions" ∈ zT := zU1 21 (by decide +kernel) g_initialized
theorem ini_AB : Cond.initialized "java/lang/AbstractStringBuilder" ∈ zT := zU1 22 (by decide +kernel) g_initialized
theorem ini_SB : Cond.initialized "java/lang/StringBuilder" ∈ zT := zU1 23 (by decide +kernel) g_initialized
theorem ini_ST : Cond.initialized "java/lang/String" ∈ zT := zU1 24 (by decide +kernel) g_initialized
theorem ini_U6 : Cond.initialized "java/lang/StringUTF16" ∈ zT := zU1 25 (by decide +kernel) g_initialized
theorem ini_L1 : Cond.initialized "java/lang/StringLatin1" ∈ zT := zU1 26 (by decide +kernel) g_initialized
theorem ini_NU : Cond.initialized "java/lang/Number" ∈ zT := zU1 27 (by decide +kernel) g_initialized
theorem ini_IN : Cond.initialized "java/lang/Integer" ∈ zT := zU1 28 (by decide +kernel) g_initialized
theorem ini_MP : Cond.initialized "PartlisterModel$Part" ∈ zT := zU1 29 (by decide +kernel) g_initialized
theorem ini_MC : Cond.initialized "PartlisterModel$Cursor" ∈ zT := zU1 30 (by decide +kernel) g_initialized
