theorem pqn0 : "Partlister" ≠ "java/lang/invoke/MethodHandle" ∧ "Partlister" ≠ "java/lang/invoke/VarHandle" := ⟨by decide +kernel, by decide +kernel⟩
theorem pqd1 : (parseMethodDescriptor "()V").map (fun d => d.parameters.length) = some 0 := by decide +kernel
theorem pqd2 : (parseMethodDescriptor "(II)I").map (fun d => d.parameters.length) = some 2 := by decide +kernel
theorem pqd3 : (parseMethodDescriptor "(III)I").map (fun d => d.parameters.length) = some 3 := by decide +kernel
theorem pqd4 : (parseMethodDescriptor "(II)Z").map (fun d => d.parameters.length) = some 2 := by decide +kernel
theorem pqd5 : (parseMethodDescriptor "(IIII)V").map (fun d => d.parameters.length) = some 4 := by decide +kernel
theorem pqd6 : (parseMethodDescriptor "(I)I").map (fun d => d.parameters.length) = some 1 := by decide +kernel
theorem pqd7 : (parseMethodDescriptor "()J").map (fun d => d.parameters.length) = some 0 := by decide +kernel
theorem pqd8 : (parseMethodDescriptor "(I)Z").map (fun d => d.parameters.length) = some 1 := by decide +kernel
theorem pqd9 : (parseMethodDescriptor "(II)V").map (fun d => d.parameters.length) = some 2 := by decide +kernel
theorem pqd10 : (parseMethodDescriptor "(III)Z").map (fun d => d.parameters.length) = some 3 := by decide +kernel
theorem pqd11 : (parseMethodDescriptor "(IZ)I").map (fun d => d.parameters.length) = some 2 := by decide +kernel
theorem pqd12 : (parseMethodDescriptor "()Z").map (fun d => d.parameters.length) = some 0 := by decide +kernel
theorem pqd13 : (parseMethodDescriptor "()I").map (fun d => d.parameters.length) = some 0 := by decide +kernel
theorem pqd14 : (parseMethodDescriptor "(JJ)J").map (fun d => d.parameters.length) = some 2 := by decide +kernel
theorem pqd15 : (parseMethodDescriptor "(JI)J").map (fun d => d.parameters.length) = some 2 := by decide +kernel
theorem pqd16 : (parseMethodDescriptor "(JII)J").map (fun d => d.parameters.length) = some 3 := by decide +kernel
theorem pqd17 : (parseMethodDescriptor "(I)V").map (fun d => d.parameters.length) = some 1 := by decide +kernel
theorem pqd18 : (parseMethodDescriptor "(I)Ljava/lang/String;").map (fun d => d.parameters.length) = some 1 := by decide +kernel
theorem pqn19 : "Partlister$Cursors" ≠ "java/lang/invoke/MethodHandle" ∧ "Partlister$Cursors" ≠ "java/lang/invoke/VarHandle" := ⟨by decide +kernel, by decide +kernel⟩
theorem pqd20 : (parseMethodDescriptor "(III)V").map (fun d => d.parameters.length) = some 3 := by decide +kernel
theorem pqn21 : "Partlister$Lists" ≠ "java/lang/invoke/MethodHandle" ∧ "Partlister$Lists" ≠ "java/lang/invoke/VarHandle" := ⟨by decide +kernel, by decide +kernel⟩
theorem pqn22 : "Partlister$Numbers" ≠ "java/lang/invoke/MethodHandle" ∧ "Partlister$Numbers" ≠ "java/lang/invoke/VarHandle" := ⟨by decide +kernel, by decide +kernel⟩
theorem pqn23 : "PartlisterLaw$Out" ≠ "java/lang/invoke/MethodHandle" ∧ "PartlisterLaw$Out" ≠ "java/lang/invoke/VarHandle" := ⟨by decide +kernel, by decide +kernel⟩
theorem pqn24 : "PartlisterModel" ≠ "java/lang/invoke/MethodHandle" ∧ "PartlisterModel" ≠ "java/lang/invoke/VarHandle" := ⟨by decide +kernel, by decide +kernel⟩
theorem pqd25 : (parseMethodDescriptor "([I[II)I").map (fun d => d.parameters.length) = some 3 := by decide +kernel
theorem pqd26 : (parseMethodDescriptor "(II)[I").map (fun d => d.parameters.length) = some 2 := by decide +kernel
theorem pqd27 : (parseMethodDescriptor "(II[I)V").map (fun d => d.parameters.length) = some 3 := by decide +kernel
theorem pqd28 : (parseMethodDescriptor "(I)Ljava/util/ArrayList;").map (fun d => d.parameters.length) = some 1 := by decide +kernel
theorem pqd29 : (parseMethodDescriptor "(IZ)[Z").map (fun d => d.parameters.length) = some 2 := by decide +kernel
theorem pqd30 : (parseMethodDescriptor "(I)[I").map (fun d => d.parameters.length) = some 1 := by decide +kernel
theorem pqd31 : (parseMethodDescriptor "(Z)I").map (fun d => d.parameters.length) = some 1 := by decide +kernel
theorem pqd32 : (parseMethodDescriptor "(Ljava/util/ArrayList;I)V").map (fun d => d.parameters.length) = some 2 := by decide +kernel
theorem pqd33 : (parseMethodDescriptor "(ZI)Z").map (fun d => d.parameters.length) = some 2 := by decide +kernel
theorem pqd34 : (parseMethodDescriptor "(I[Z)I").map (fun d => d.parameters.length) = some 2 := by decide +kernel
theorem pqd35 : (parseMethodDescriptor "(II[I)[I").map (fun d => d.parameters.length) = some 3 := by decide +kernel
theorem pqn36 : "PartlisterModel$Cursor" ≠ "java/lang/invoke/MethodHandle" ∧ "PartlisterModel$Cursor" ≠ "java/lang/invoke/VarHandle" := ⟨by decide +kernel, by decide +kernel⟩
theorem pqn37 : "PartlisterModel$Part" ≠ "java/lang/invoke/MethodHandle" ∧ "PartlisterModel$Part" ≠ "java/lang/invoke/VarHandle" := ⟨by decide +kernel, by decide +kernel⟩
theorem pqn38 : "java/lang/AbstractStringBuilder" ≠ "java/lang/invoke/MethodHandle" ∧ "java/lang/AbstractStringBuilder" ≠ "java/lang/invoke/VarHandle" := ⟨by decide +kernel, by decide +kernel⟩
theorem pqd39 : (parseMethodDescriptor "(C)Ljava/lang/AbstractStringBuilder;").map (fun d => d.parameters.length) = some 1 := by decide +kernel
theorem pqd40 : (parseMethodDescriptor "(I)Ljava/lang/AbstractStringBuilder;").map (fun d => d.parameters.length) = some 1 := by decide +kernel
theorem pqd41 : (parseMethodDescriptor "(Ljava/lang/String;)Ljava/lang/AbstractStringBuilder;").map (fun d => d.parameters.length) = some 1 := by decide +kernel
theorem pqd42 : (parseMethodDescriptor "()Ljava/lang/AbstractStringBuilder;").map (fun d => d.parameters.length) = some 0 := by decide +kernel
theorem pqd43 : (parseMethodDescriptor "()[B").map (fun d => d.parameters.length) = some 0 := by decide +kernel
theorem pqd44 : (parseMethodDescriptor "(Ljava/lang/String;)V").map (fun d => d.parameters.length) = some 1 := by decide +kernel
theorem pqd45 : (parseMethodDescriptor "(ILjava/lang/String;)V").map (fun d => d.parameters.length) = some 2 := by decide +kernel
theorem pqn46 : "java/lang/Exception" ≠ "java/lang/invoke/MethodHandle" ∧ "java/lang/Exception" ≠ "java/lang/invoke/VarHandle" := ⟨by decide +kernel, by decide +kernel⟩
theorem pqn47 : "java/lang/IllegalArgumentException" ≠ "java/lang/invoke/MethodHandle" ∧ "java/lang/IllegalArgumentException" ≠ "java/lang/invoke/VarHandle" := ⟨by decide +kernel, by decide +kernel⟩
theorem pqn48 : "java/lang/IllegalStateException" ≠ "java/lang/invoke/MethodHandle" ∧ "java/lang/IllegalStateException" ≠ "java/lang/invoke/VarHandle" := ⟨by decide +kernel, by decide +kernel⟩
theorem pqn49 : "java/lang/IndexOutOfBoundsException" ≠ "java/lang/invoke/MethodHandle" ∧ "java/lang/IndexOutOfBoundsException" ≠ "java/lang/invoke/VarHandle" := ⟨by decide +kernel, by decide +kernel⟩
theorem pqn50 : "java/lang/Integer" ≠ "java/lang/invoke/MethodHandle" ∧ "java/lang/Integer" ≠ "java/lang/invoke/VarHandle" := ⟨by decide +kernel, by decide +kernel⟩
theorem pqd51 : (parseMethodDescriptor "(II[B)I").map (fun d => d.parameters.length) = some 3 := by decide +kernel
theorem pqn52 : "java/lang/Math" ≠ "java/lang/invoke/MethodHandle" ∧ "java/lang/Math" ≠ "java/lang/invoke/VarHandle" := ⟨by decide +kernel, by decide +kernel⟩
theorem pqn53 : "java/lang/RuntimeException" ≠ "java/lang/invoke/MethodHandle" ∧ "java/lang/RuntimeException" ≠ "java/lang/invoke/VarHandle" := ⟨by decide +kernel, by decide +kernel⟩
theorem pqn54 : "java/lang/String" ≠ "java/lang/invoke/MethodHandle" ∧ "java/lang/String" ≠ "java/lang/invoke/VarHandle" := ⟨by decide +kernel, by decide +kernel⟩
theorem pqd55 : (parseMethodDescriptor "(Ljava/lang/AbstractStringBuilder;Ljava/lang/Void;)V").map (fun d => d.parameters.length) = some 2 := by decide +kernel
theorem pqd56 : (parseMethodDescriptor "(Ljava/lang/StringBuilder;)V").map (fun d => d.parameters.length) = some 1 := by decide +kernel
theorem pqd57 : (parseMethodDescriptor "()B").map (fun d => d.parameters.length) = some 0 := by decide +kernel
theorem pqd58 : (parseMethodDescriptor "([BIB)V").map (fun d => d.parameters.length) = some 3 := by decide +kernel
theorem pqn59 : "java/lang/StringBuilder" ≠ "java/lang/invoke/MethodHandle" ∧ "java/lang/StringBuilder" ≠ "java/lang/invoke/VarHandle" := ⟨by decide +kernel, by decide +kernel⟩
theorem pqd60 : (parseMethodDescriptor "(C)Ljava/lang/StringBuilder;").map (fun d => d.parameters.length) = some 1 := by decide +kernel
theorem pqd61 : (parseMethodDescriptor "(I)Ljava/lang/StringBuilder;").map (fun d => d.parameters.length) = some 1 := by decide +kernel
theorem pqd62 : (parseMethodDescriptor "(Ljava/lang/String;)Ljava/lang/StringBuilder;").map (fun d => d.parameters.length) = some 1 := by decide +kernel
theorem pqd63 : (parseMethodDescriptor "()Ljava/lang/String;").map (fun d => d.parameters.length) = some 0 := by decide +kernel
theorem pqn64 : "java/lang/StringLatin1" ≠ "java/lang/invoke/MethodHandle" ∧ "java/lang/StringLatin1" ≠ "java/lang/invoke/VarHandle" := ⟨by decide +kernel, by decide +kernel⟩
theorem pqd65 : (parseMethodDescriptor "(C)Z").map (fun d => d.parameters.length) = some 1 := by decide +kernel
theorem pqd66 : (parseMethodDescriptor "([BI[BII)V").map (fun d => d.parameters.length) = some 5 := by decide +kernel
theorem pqn67 : "java/lang/StringUTF16" ≠ "java/lang/invoke/MethodHandle" ∧ "java/lang/StringUTF16" ≠ "java/lang/invoke/VarHandle" := ⟨by decide +kernel, by decide +kernel⟩
theorem pqd68 : (parseMethodDescriptor "(II[B)V").map (fun d => d.parameters.length) = some 3 := by decide +kernel
theorem pqd69 : (parseMethodDescriptor "(I[B)V").map (fun d => d.parameters.length) = some 2 := by decide +kernel
theorem pqd70 : (parseMethodDescriptor "([BI)B").map (fun d => d.parameters.length) = some 2 := by decide +kernel
theorem pqd71 : (parseMethodDescriptor "([BII)[B").map (fun d => d.parameters.length) = some 3 := by decide +kernel
theorem pqd72 : (parseMethodDescriptor "([BI[BII)I").map (fun d => d.parameters.length) = some 5 := by decide +kernel
theorem pqd73 : (parseMethodDescriptor "([BI)C").map (fun d => d.parameters.length) = some 2 := by decide +kernel
theorem pqd74 : (parseMethodDescriptor "(III[B)I").map (fun d => d.parameters.length) = some 4 := by decide +kernel
theorem pqd75 : (parseMethodDescriptor "([B)I").map (fun d => d.parameters.length) = some 1 := by decide +kernel
theorem pqd76 : (parseMethodDescriptor "(I)[B").map (fun d => d.parameters.length) = some 1 := by decide +kernel
theorem pqd77 : (parseMethodDescriptor "([BII)V").map (fun d => d.parameters.length) = some 3 := by decide +kernel
theorem pqd78 : (parseMethodDescriptor "([BICCCC)I").map (fun d => d.parameters.length) = some 6 := by decide +kernel
theorem pqn79 : "java/lang/Throwable" ≠ "java/lang/invoke/MethodHandle" ∧ "java/lang/Throwable" ≠ "java/lang/invoke/VarHandle" := ⟨by decide +kernel, by decide +kernel⟩
theorem pqn80 : "java/util/AbstractCollection" ≠ "java/lang/invoke/MethodHandle" ∧ "java/util/AbstractCollection" ≠ "java/lang/invoke/VarHandle" := ⟨by decide +kernel, by decide +kernel⟩
theorem pqn81 : "java/util/AbstractList" ≠ "java/lang/invoke/MethodHandle" ∧ "java/util/AbstractList" ≠ "java/lang/invoke/VarHandle" := ⟨by decide +kernel, by decide +kernel⟩
theorem pqn82 : "java/util/ArrayList" ≠ "java/lang/invoke/MethodHandle" ∧ "java/util/ArrayList" ≠ "java/lang/invoke/VarHandle" := ⟨by decide +kernel, by decide +kernel⟩
theorem pqd83 : (parseMethodDescriptor "(ILjava/lang/Object;)V").map (fun d => d.parameters.length) = some 2 := by decide +kernel
theorem pqd84 : (parseMethodDescriptor "(Ljava/lang/Object;)Z").map (fun d => d.parameters.length) = some 1 := by decide +kernel
theorem pqd85 : (parseMethodDescriptor "(Ljava/lang/Object;[Ljava/lang/Object;I)V").map (fun d => d.parameters.length) = some 3 := by decide +kernel
theorem pqd86 : (parseMethodDescriptor "(I)Ljava/lang/Object;").map (fun d => d.parameters.length) = some 1 := by decide +kernel
theorem pqd87 : (parseMethodDescriptor "([Ljava/lang/Object;I)V").map (fun d => d.parameters.length) = some 2 := by decide +kernel
theorem pqd88 : (parseMethodDescriptor "()[Ljava/lang/Object;").map (fun d => d.parameters.length) = some 0 := by decide +kernel
theorem pqd89 : (parseMethodDescriptor "(I)[Ljava/lang/Object;").map (fun d => d.parameters.length) = some 1 := by decide +kernel
theorem pqd90 : (parseMethodDescriptor "(ILjava/lang/Object;)Ljava/lang/Object;").map (fun d => d.parameters.length) = some 2 := by decide +kernel
theorem pqn91 : "java/util/Arrays" ≠ "java/lang/invoke/MethodHandle" ∧ "java/util/Arrays" ≠ "java/lang/invoke/VarHandle" := ⟨by decide +kernel, by decide +kernel⟩
theorem pqd92 : (parseMethodDescriptor "([BI)[B").map (fun d => d.parameters.length) = some 2 := by decide +kernel
theorem pqd93 : (parseMethodDescriptor "([Ljava/lang/Object;I)[Ljava/lang/Object;").map (fun d => d.parameters.length) = some 2 := by decide +kernel
theorem pqd94 : (parseMethodDescriptor "([Ljava/lang/Object;ILjava/lang/Class;)[Ljava/lang/Object;").map (fun d => d.parameters.length) = some 3 := by decide +kernel
theorem pqn95 : "java/util/Objects" ≠ "java/lang/invoke/MethodHandle" ∧ "java/util/Objects" ≠ "java/lang/invoke/VarHandle" := ⟨by decide +kernel, by decide +kernel⟩
theorem pqn96 : "jdk/internal/util/ArraysSupport" ≠ "java/lang/invoke/MethodHandle" ∧ "jdk/internal/util/ArraysSupport" ≠ "java/lang/invoke/VarHandle" := ⟨by decide +kernel, by decide +kernel⟩
theorem pqn97 : "jdk/internal/util/Preconditions" ≠ "java/lang/invoke/MethodHandle" ∧ "jdk/internal/util/Preconditions" ≠ "java/lang/invoke/VarHandle" := ⟨by decide +kernel, by decide +kernel⟩
theorem pqd98 : (parseMethodDescriptor "(IIILjava/util/function/BiFunction;)I").map (fun d => d.parameters.length) = some 4 := by decide +kernel
theorem pqd99 : (parseMethodDescriptor "(IILjava/util/function/BiFunction;)I").map (fun d => d.parameters.length) = some 3 := by decide +kernel
def T_U : u_T := fun k => match k with
  | 0 => ("Partlister$Cursors", "states", "LPartlister$Numbers;", true)
  | 1 => ("Partlister$Cursors", "on", "LPartlister$Numbers;", true)
  | 2 => ("Partlister$Cursors", "nexts", "LPartlister$Numbers;", true)
  | 3 => ("Partlister$Cursors", "lasts", "LPartlister$Numbers;", true)
  | _ => ("Partlister$Cursors", "ended", "I", false)
def y_U : Nat → FieldType := fun k => match k with
  | 0 => (.object "Partlister$Numbers")
  | 1 => (.object "Partlister$Numbers")
  | 2 => (.object "Partlister$Numbers")
  | 3 => (.object "Partlister$Numbers")
  | _ => .int
theorem ty_U : ∀ j, j < 5 → parseFieldDescriptor (T_U j).2.2.1 = some (y_U j) := by decide +kernel
theorem nm_U : ∀ a, a < 5 → ∀ b, b < 5 → a ≠ b → (T_U a).2.1 ≠ (T_U b).2.1 := by decide +kernel
theorem uw_U : ∀ w ∈ u_ws "Partlister$Cursors" T_U 5, w ∈ zT := by
  show ∀ w ∈ ([.laysFinal "Partlister$Cursors" "Partlister$Cursors" "states" "LPartlister$Numbers;", .laysFinal "Partlister$Cursors" "Partlister$Cursors" "on" "LPartlister$Numbers;", .laysFinal "Partlister$Cursors" "Partlister$Cursors" "nexts" "LPartlister$Numbers;", .laysFinal "Partlister$Cursors" "Partlister$Cursors" "lasts" "LPartlister$Numbers;", .lays "Partlister$Cursors" "Partlister$Cursors" "ended" "I"] : List Cond), w ∈ zT
  exact List.forall_mem_cons.mpr ⟨zU1 95 (by decide +kernel) rfl, List.forall_mem_cons.mpr ⟨zU1 97 (by decide +kernel) rfl, List.forall_mem_cons.mpr ⟨zU1 99 (by decide +kernel) rfl, List.forall_mem_cons.mpr ⟨zU1 101 (by decide +kernel) rfl, List.forall_mem_cons.mpr ⟨zU1 103 (by decide +kernel) rfl, fun _ h => absurd h List.not_mem_nil⟩⟩⟩⟩⟩
def T_I : u_T := fun k => match k with
  | 0 => ("Partlister$Lists", "things", "LPartlister$Numbers;", true)
  | 1 => ("Partlister$Lists", "lengths", "LPartlister$Numbers;", true)
  | 2 => ("Partlister$Lists", "aboves", "LPartlister$Numbers;", true)
  | 3 => ("Partlister$Lists", "rows", "LPartlister$Numbers;", true)
  | 4 => ("Partlister$Lists", "starts", "LPartlister$Numbers;", true)
  | 5 => ("Partlister$Lists", "spare", "LPartlister$Numbers;", true)
  | _ => ("Partlister$Lists", "ended", "I", false)
def y_I : Nat → FieldType := fun k => match k with
  | 0 => (.object "Partlister$Numbers")
  | 1 => (.object "Partlister$Numbers")
  | 2 => (.object "Partlister$Numbers")
  | 3 => (.object "Partlister$Numbers")
  | 4 => (.object "Partlister$Numbers")
  | 5 => (.object "Partlister$Numbers")
  | _ => .int
theorem ty_I : ∀ j, j < 7 → parseFieldDescriptor (T_I j).2.2.1 = some (y_I j) := by decide +kernel
theorem nm_I : ∀ a, a < 7 → ∀ b, b < 7 → a ≠ b → (T_I a).2.1 ≠ (T_I b).2.1 := by decide +kernel
theorem uw_I : ∀ w ∈ u_ws "Partlister$Lists" T_I 7, w ∈ zT := by
  show ∀ w ∈ ([.laysFinal "Partlister$Lists" "Partlister$Lists" "things" "LPartlister$Numbers;", .laysFinal "Partlister$Lists" "Partlister$Lists" "lengths" "LPartlister$Numbers;", .laysFinal "Partlister$Lists" "Partlister$Lists" "aboves" "LPartlister$Numbers;", .laysFinal "Partlister$Lists" "Partlister$Lists" "rows" "LPartlister$Numbers;", .laysFinal "Partlister$Lists" "Partlister$Lists" "starts" "LPartlister$Numbers;", .laysFinal "Partlister$Lists" "Partlister$Lists" "spare" "LPartlister$Numbers;", .lays "Partlister$Lists" "Partlister$Lists" "ended" "I"] : List Cond), w ∈ zT
  exact List.forall_mem_cons.mpr ⟨zU1 67 (by decide +kernel) rfl, List.forall_mem_cons.mpr ⟨zU1 69 (by decide +kernel) rfl, List.forall_mem_cons.mpr ⟨zU1 71 (by decide +kernel) rfl, List.forall_mem_cons.mpr ⟨zU1 73 (by decide +kernel) rfl, List.forall_mem_cons.mpr ⟨zU1 75 (by decide +kernel) rfl, List.forall_mem_cons.mpr ⟨zU1 77 (by decide +kernel) rfl, List.forall_mem_cons.mpr ⟨zU1 79 (by decide +kernel) rfl, fun _ h => absurd h List.not_mem_nil⟩⟩⟩⟩⟩⟩⟩
def T_N : u_T := fun k => match k with
  | _ => ("Partlister$Numbers", "cells", "[I", true)
def y_N : Nat → FieldType := fun k => match k with
  | _ => (.array .int)
theorem ty_N : ∀ j, j < 1 → parseFieldDescriptor (T_N j).2.2.1 = some (y_N j) := by decide +kernel
theorem nm_N : ∀ a, a < 1 → ∀ b, b < 1 → a ≠ b → (T_N a).2.1 ≠ (T_N b).2.1 := by decide +kernel
theorem uw_N : ∀ w ∈ u_ws "Partlister$Numbers" T_N 1, w ∈ zT := by
  show ∀ w ∈ ([.laysFinal "Partlister$Numbers" "Partlister$Numbers" "cells" "[I"] : List Cond), w ∈ zT
  exact List.forall_mem_cons.mpr ⟨zU1 52 (by decide +kernel) rfl, fun _ h => absurd h List.not_mem_nil⟩
def T_X : u_T := fun k => match k with
  | 0 => ("Partlister", "lists", "LPartlister$Lists;", true)
  | 1 => ("Partlister", "cursors", "LPartlister$Cursors;", true)
  | 2 => ("Partlister", "made", "I", false)
  | 3 => ("Partlister", "failures", "I", false)
  | _ => ("Partlister", "refused", "I", false)
def y_X : Nat → FieldType := fun k => match k with
  | 0 => (.object "Partlister$Lists")
  | 1 => (.object "Partlister$Cursors")
  | 2 => .int
  | 3 => .int
  | _ => .int
theorem ty_X : ∀ j, j < 5 → parseFieldDescriptor (T_X j).2.2.1 = some (y_X j) := by decide +kernel
theorem nm_X : ∀ a, a < 5 → ∀ b, b < 5 → a ≠ b → (T_X a).2.1 ≠ (T_X b).2.1 := by decide +kernel
theorem uw_X : ∀ w ∈ u_ws "Partlister" T_X 5, w ∈ zT := by
  show ∀ w ∈ ([.laysFinal "Partlister" "Partlister" "lists" "LPartlister$Lists;", .laysFinal "Partlister" "Partlister" "cursors" "LPartlister$Cursors;", .lays "Partlister" "Partlister" "made" "I", .lays "Partlister" "Partlister" "failures" "I", .lays "Partlister" "Partlister" "refused" "I"] : List Cond), w ∈ zT
  exact List.forall_mem_cons.mpr ⟨zU1 111 (by decide +kernel) rfl, List.forall_mem_cons.mpr ⟨zU1 113 (by decide +kernel) rfl, List.forall_mem_cons.mpr ⟨zU1 115 (by decide +kernel) rfl, List.forall_mem_cons.mpr ⟨zU1 117 (by decide +kernel) rfl, List.forall_mem_cons.mpr ⟨zU1 119 (by decide +kernel) rfl, fun _ h => absurd h List.not_mem_nil⟩⟩⟩⟩⟩
def T_MC : u_T := fun k => match k with
  | 0 => ("PartlisterModel$Cursor", "list", "I", false)
  | 1 => ("PartlisterModel$Cursor", "next", "I", false)
  | 2 => ("PartlisterModel$Cursor", "last", "I", false)
  | _ => ("PartlisterModel$Cursor", "isStale", "Z", false)
def y_MC : Nat → FieldType := fun k => match k with
  | 0 => .int
  | 1 => .int
  | 2 => .int
  | _ => .boolean
theorem ty_MC : ∀ j, j < 4 → parseFieldDescriptor (T_MC j).2.2.1 = some (y_MC j) := by decide +kernel
theorem nm_MC : ∀ a, a < 4 → ∀ b, b < 4 → a ≠ b → (T_MC a).2.1 ≠ (T_MC b).2.1 := by decide +kernel
theorem uw_MC : ∀ w ∈ u_ws "PartlisterModel$Cursor" T_MC 4, w ∈ zT := by
  show ∀ w ∈ ([.lays "PartlisterModel$Cursor" "PartlisterModel$Cursor" "list" "I", .lays "PartlisterModel$Cursor" "PartlisterModel$Cursor" "next" "I", .lays "PartlisterModel$Cursor" "PartlisterModel$Cursor" "last" "I", .lays "PartlisterModel$Cursor" "PartlisterModel$Cursor" "isStale" "Z"] : List Cond), w ∈ zT
  exact List.forall_mem_cons.mpr ⟨zU7 207 (by decide +kernel) rfl, List.forall_mem_cons.mpr ⟨zU7 209 (by decide +kernel) rfl, List.forall_mem_cons.mpr ⟨zU7 211 (by decide +kernel) rfl, List.forall_mem_cons.mpr ⟨zU7 213 (by decide +kernel) rfl, fun _ h => absurd h List.not_mem_nil⟩⟩⟩⟩
def T_MP : u_T := fun k => match k with
  | 0 => ("PartlisterModel$Part", "of", "I", false)
  | 1 => ("PartlisterModel$Part", "from", "I", false)
  | _ => ("PartlisterModel$Part", "length", "I", false)
def y_MP : Nat → FieldType := fun k => match k with
  | 0 => .int
  | 1 => .int
  | _ => .int
theorem ty_MP : ∀ j, j < 3 → parseFieldDescriptor (T_MP j).2.2.1 = some (y_MP j) := by decide +kernel
theorem nm_MP : ∀ a, a < 3 → ∀ b, b < 3 → a ≠ b → (T_MP a).2.1 ≠ (T_MP b).2.1 := by decide +kernel
theorem uw_MP : ∀ w ∈ u_ws "PartlisterModel$Part" T_MP 3, w ∈ zT := by
  show ∀ w ∈ ([.lays "PartlisterModel$Part" "PartlisterModel$Part" "of" "I", .lays "PartlisterModel$Part" "PartlisterModel$Part" "from" "I", .lays "PartlisterModel$Part" "PartlisterModel$Part" "length" "I"] : List Cond), w ∈ zT
  exact List.forall_mem_cons.mpr ⟨zU7 174 (by decide +kernel) rfl, List.forall_mem_cons.mpr ⟨zU7 176 (by decide +kernel) rfl, List.forall_mem_cons.mpr ⟨zU7 178 (by decide +kernel) rfl, fun _ h => absurd h List.not_mem_nil⟩⟩⟩
def T_M : u_T := fun k => match k with
  | 0 => ("PartlisterModel", "thrown", "I", false)
  | 1 => ("PartlisterModel", "rows", "Ljava/util/ArrayList;", true)
  | 2 => ("PartlisterModel", "parts", "[LPartlisterModel$Part;", true)
  | 3 => ("PartlisterModel", "cursors", "[LPartlisterModel$Cursor;", true)
  | 4 => ("PartlisterModel", "made", "I", false)
  | 5 => ("PartlisterModel", "partsOver", "I", false)
  | 6 => ("PartlisterModel", "cursorsOver", "I", false)
  | 7 => ("PartlisterModel", "faults", "I", false)
  | _ => ("PartlisterModel", "refused", "I", false)
def y_M : Nat → FieldType := fun k => match k with
  | 0 => .int
  | 1 => (.object "java/util/ArrayList")
  | 2 => (.array (.object "PartlisterModel$Part"))
  | 3 => (.array (.object "PartlisterModel$Cursor"))
  | 4 => .int
  | 5 => .int
  | 6 => .int
  | 7 => .int
  | _ => .int
theorem ty_M : ∀ j, j < 9 → parseFieldDescriptor (T_M j).2.2.1 = some (y_M j) := by decide +kernel
theorem nm_M : ∀ a, a < 9 → ∀ b, b < 9 → a ≠ b → (T_M a).2.1 ≠ (T_M b).2.1 := by decide +kernel
theorem uw_M : ∀ w ∈ u_ws "PartlisterModel" T_M 9, w ∈ zT := by
  show ∀ w ∈ ([.lays "PartlisterModel" "PartlisterModel" "thrown" "I", .laysFinal "PartlisterModel" "PartlisterModel" "rows" "Ljava/util/ArrayList;", .laysFinal "PartlisterModel" "PartlisterModel" "parts" "[LPartlisterModel$Part;", .laysFinal "PartlisterModel" "PartlisterModel" "cursors" "[LPartlisterModel$Cursor;", .lays "PartlisterModel" "PartlisterModel" "made" "I", .lays "PartlisterModel" "PartlisterModel" "partsOver" "I", .lays "PartlisterModel" "PartlisterModel" "cursorsOver" "I", .lays "PartlisterModel" "PartlisterModel" "faults" "I", .lays "PartlisterModel" "PartlisterModel" "refused" "I"] : List Cond), w ∈ zT
  exact List.forall_mem_cons.mpr ⟨zU6 130 (by decide +kernel) rfl, List.forall_mem_cons.mpr ⟨zU6 132 (by decide +kernel) rfl, List.forall_mem_cons.mpr ⟨zU6 134 (by decide +kernel) rfl, List.forall_mem_cons.mpr ⟨zU6 136 (by decide +kernel) rfl, List.forall_mem_cons.mpr ⟨zU6 138 (by decide +kernel) rfl, List.forall_mem_cons.mpr ⟨zU6 140 (by decide +kernel) rfl, List.forall_mem_cons.mpr ⟨zU6 142 (by decide +kernel) rfl, List.forall_mem_cons.mpr ⟨zU6 144 (by decide +kernel) rfl, List.forall_mem_cons.mpr ⟨zU6 146 (by decide +kernel) rfl, fun _ h => absurd h List.not_mem_nil⟩⟩⟩⟩⟩⟩⟩⟩⟩
def T_O : u_T := fun k => match k with
  | 0 => ("PartlisterLaw$Out", "n", "J", false)
  | _ => ("PartlisterLaw$Out", "s", "Ljava/lang/String;", false)
def y_O : Nat → FieldType := fun k => match k with
  | 0 => .long
  | _ => (.object "java/lang/String")
theorem ty_O : ∀ j, j < 2 → parseFieldDescriptor (T_O j).2.2.1 = some (y_O j) := by decide +kernel
theorem nm_O : ∀ a, a < 2 → ∀ b, b < 2 → a ≠ b → (T_O a).2.1 ≠ (T_O b).2.1 := by decide +kernel
theorem uw_O : ∀ w ∈ u_ws "PartlisterLaw$Out" T_O 2, w ∈ zT := by
  show ∀ w ∈ ([.lays "PartlisterLaw$Out" "PartlisterLaw$Out" "n" "J", .lays "PartlisterLaw$Out" "PartlisterLaw$Out" "s" "Ljava/lang/String;"] : List Cond), w ∈ zT
  exact List.forall_mem_cons.mpr ⟨zU2 114 (by decide +kernel) rfl, List.forall_mem_cons.mpr ⟨zU2 116 (by decide +kernel) rfl, fun _ h => absurd h List.not_mem_nil⟩⟩
def T_ST : u_T := fun k => match k with
  | 0 => ("java/lang/String", "value", "[B", true)
  | 1 => ("java/lang/String", "coder", "B", true)
  | 2 => ("java/lang/String", "hash", "I", false)
  | _ => ("java/lang/String", "hashIsZero", "Z", false)
def y_ST : Nat → FieldType := fun k => match k with
  | 0 => (.array .byte)
  | 1 => .byte
  | 2 => .int
  | _ => .boolean
theorem ty_ST : ∀ j, j < 4 → parseFieldDescriptor (T_ST j).2.2.1 = some (y_ST j) := by decide +kernel
theorem nm_ST : ∀ a, a < 4 → ∀ b, b < 4 → a ≠ b → (T_ST a).2.1 ≠ (T_ST b).2.1 := by decide +kernel
theorem uw_ST : ∀ w ∈ u_ws "java/lang/String" T_ST 4, w ∈ zT := by
  show ∀ w ∈ ([.laysFinal "java/lang/String" "java/lang/String" "value" "[B", .laysFinal "java/lang/String" "java/lang/String" "coder" "B", .lays "java/lang/String" "java/lang/String" "hash" "I", .lays "java/lang/String" "java/lang/String" "hashIsZero" "Z"] : List Cond), w ∈ zT
  exact List.forall_mem_cons.mpr ⟨zU6 5 (by decide +kernel) rfl, List.forall_mem_cons.mpr ⟨zU6 7 (by decide +kernel) rfl, List.forall_mem_cons.mpr ⟨zU6 9 (by decide +kernel) rfl, List.forall_mem_cons.mpr ⟨zU6 11 (by decide +kernel) rfl, fun _ h => absurd h List.not_mem_nil⟩⟩⟩⟩
def T_AL : u_T := fun k => match k with
  | 0 => ("java/util/ArrayList", "elementData", "[Ljava/lang/Object;", false)
  | 1 => ("java/util/ArrayList", "size", "I", false)
  | _ => ("java/util/AbstractList", "modCount", "I", false)
def y_AL : Nat → FieldType := fun k => match k with
  | 0 => (.array (.object "java/lang/Object"))
  | 1 => .int
  | _ => .int
theorem ty_AL : ∀ j, j < 3 → parseFieldDescriptor (T_AL j).2.2.1 = some (y_AL j) := by decide +kernel
theorem nm_AL : ∀ a, a < 3 → ∀ b, b < 3 → a ≠ b → (T_AL a).2.1 ≠ (T_AL b).2.1 := by decide +kernel
theorem uw_AL : ∀ w ∈ u_ws "java/util/ArrayList" T_AL 3, w ∈ zT := by
  show ∀ w ∈ ([.lays "java/util/ArrayList" "java/util/ArrayList" "elementData" "[Ljava/lang/Object;", .lays "java/util/ArrayList" "java/util/ArrayList" "size" "I", .lays "java/util/ArrayList" "java/util/AbstractList" "modCount" "I"] : List Cond), w ∈ zT
  exact List.forall_mem_cons.mpr ⟨zU6 64 (by decide +kernel) rfl, List.forall_mem_cons.mpr ⟨zU6 66 (by decide +kernel) rfl, List.forall_mem_cons.mpr ⟨zU6 68 (by decide +kernel) rfl, fun _ h => absurd h List.not_mem_nil⟩⟩⟩
def T_SB : u_T := fun k => match k with
  | 0 => ("java/lang/AbstractStringBuilder", "value", "[B", false)
  | 1 => ("java/lang/AbstractStringBuilder", "coder", "B", false)
  | 2 => ("java/lang/AbstractStringBuilder", "maybeLatin1", "Z", false)
  | _ => ("java/lang/AbstractStringBuilder", "count", "I", false)
def y_SB : Nat → FieldType := fun k => match k with
  | 0 => (.array .byte)
  | 1 => .byte
  | 2 => .boolean
  | _ => .int
theorem ty_SB : ∀ j, j < 4 → parseFieldDescriptor (T_SB j).2.2.1 = some (y_SB j) := by decide +kernel
theorem nm_SB : ∀ a, a < 4 → ∀ b, b < 4 → a ≠ b → (T_SB a).2.1 ≠ (T_SB b).2.1 := by decide +kernel
theorem uw_SB : ∀ w ∈ u_ws "java/lang/StringBuilder" T_SB 4, w ∈ zT := by
  show ∀ w ∈ ([.lays "java/lang/StringBuilder" "java/lang/AbstractStringBuilder" "value" "[B", .lays "java/lang/StringBuilder" "java/lang/AbstractStringBuilder" "coder" "B", .lays "java/lang/StringBuilder" "java/lang/AbstractStringBuilder" "maybeLatin1" "Z", .lays "java/lang/StringBuilder" "java/lang/AbstractStringBuilder" "count" "I"] : List Cond), w ∈ zT
  exact List.forall_mem_cons.mpr ⟨zU5 11 (by decide +kernel) rfl, List.forall_mem_cons.mpr ⟨zU5 13 (by decide +kernel) rfl, List.forall_mem_cons.mpr ⟨zU5 15 (by decide +kernel) rfl, List.forall_mem_cons.mpr ⟨zU5 17 (by decide +kernel) rfl, fun _ h => absurd h List.not_mem_nil⟩⟩⟩⟩
def zCl : List vw_C := [("Partlister$Cursors", T_U, 5), ("Partlister$Lists", T_I, 7), ("Partlister$Numbers", T_N, 1), ("Partlister", T_X, 5), ("PartlisterModel$Cursor", T_MC, 4), ("PartlisterModel$Part", T_MP, 3), ("PartlisterModel", T_M, 9), ("PartlisterLaw$Out", T_O, 2), ("java/lang/String", T_ST, 4), ("java/util/ArrayList", T_AL, 3), ("java/lang/StringBuilder", T_SB, 4)]
def zTys : List (Nat × FieldType) := [(100, .int), (101, .byte), (102, .boolean), (103, .object "java/lang/Object"), (104, .object "PartlisterModel$Part"), (105, .object "PartlisterModel$Cursor")]
theorem bk_U : zBlank zCl 0 [.null, .null, .null, .null, .int 0] := by
  intro C T N h j hj
  obtain ⟨rfl, rfl, rfl⟩ : C = "Partlister$Cursors" ∧ T = T_U ∧ N = 5 := by
    have h1 := Option.some.inj h
    exact ⟨(congrArg Prod.fst h1).symm, (congrArg (fun q => q.2.1) h1).symm, (congrArg (fun q => q.2.2) h1).symm⟩
  exact (by decide +kernel : ∀ j, j < 5 → (parseFieldDescriptor (T_U j).2.2.1).map defaultValue = some (vp_V [.null, .null, .null, .null, .int 0] j)) j hj
theorem bk_I : zBlank zCl 1 [.null, .null, .null, .null, .null, .null, .int 0] := by
  intro C T N h j hj
  obtain ⟨rfl, rfl, rfl⟩ : C = "Partlister$Lists" ∧ T = T_I ∧ N = 7 := by
    have h1 := Option.some.inj h
    exact ⟨(congrArg Prod.fst h1).symm, (congrArg (fun q => q.2.1) h1).symm, (congrArg (fun q => q.2.2) h1).symm⟩
  exact (by decide +kernel : ∀ j, j < 7 → (parseFieldDescriptor (T_I j).2.2.1).map defaultValue = some (vp_V [.null, .null, .null, .null, .null, .null, .int 0] j)) j hj
theorem bk_N : zBlank zCl 2 [.null] := by
  intro C T N h j hj
  obtain ⟨rfl, rfl, rfl⟩ : C = "Partlister$Numbers" ∧ T = T_N ∧ N = 1 := by
    have h1 := Option.some.inj h
    exact ⟨(congrArg Prod.fst h1).symm, (congrArg (fun q => q.2.1) h1).symm, (congrArg (fun q => q.2.2) h1).symm⟩
  exact (by decide +kernel : ∀ j, j < 1 → (parseFieldDescriptor (T_N j).2.2.1).map defaultValue = some (vp_V [.null] j)) j hj
theorem bk_X : zBlank zCl 3 [.null, .null, .int 0, .int 0, .int 0] := by
  intro C T N h j hj
  obtain ⟨rfl, rfl, rfl⟩ : C = "Partlister" ∧ T = T_X ∧ N = 5 := by
    have h1 := Option.some.inj h
    exact ⟨(congrArg Prod.fst h1).symm, (congrArg (fun q => q.2.1) h1).symm, (congrArg (fun q => q.2.2) h1).symm⟩
  exact (by decide +kernel : ∀ j, j < 5 → (parseFieldDescriptor (T_X j).2.2.1).map defaultValue = some (vp_V [.null, .null, .int 0, .int 0, .int 0] j)) j hj
theorem bk_MC : zBlank zCl 4 [.int 0, .int 0, .int 0, .int 0] := by
  intro C T N h j hj
  obtain ⟨rfl, rfl, rfl⟩ : C = "PartlisterModel$Cursor" ∧ T = T_MC ∧ N = 4 := by
    have h1 := Option.some.inj h
    exact ⟨(congrArg Prod.fst h1).symm, (congrArg (fun q => q.2.1) h1).symm, (congrArg (fun q => q.2.2) h1).symm⟩
  exact (by decide +kernel : ∀ j, j < 4 → (parseFieldDescriptor (T_MC j).2.2.1).map defaultValue = some (vp_V [.int 0, .int 0, .int 0, .int 0] j)) j hj
theorem bk_MP : zBlank zCl 5 [.int 0, .int 0, .int 0] := by
  intro C T N h j hj
  obtain ⟨rfl, rfl, rfl⟩ : C = "PartlisterModel$Part" ∧ T = T_MP ∧ N = 3 := by
    have h1 := Option.some.inj h
    exact ⟨(congrArg Prod.fst h1).symm, (congrArg (fun q => q.2.1) h1).symm, (congrArg (fun q => q.2.2) h1).symm⟩
  exact (by decide +kernel : ∀ j, j < 3 → (parseFieldDescriptor (T_MP j).2.2.1).map defaultValue = some (vp_V [.int 0, .int 0, .int 0] j)) j hj
theorem bk_M : zBlank zCl 6 [.int 0, .null, .null, .null, .int 0, .int 0, .int 0, .int 0, .int 0] := by
  intro C T N h j hj
  obtain ⟨rfl, rfl, rfl⟩ : C = "PartlisterModel" ∧ T = T_M ∧ N = 9 := by
    have h1 := Option.some.inj h
    exact ⟨(congrArg Prod.fst h1).symm, (congrArg (fun q => q.2.1) h1).symm, (congrArg (fun q => q.2.2) h1).symm⟩
  exact (by decide +kernel : ∀ j, j < 9 → (parseFieldDescriptor (T_M j).2.2.1).map defaultValue = some (vp_V [.int 0, .null, .null, .null, .int 0, .int 0, .int 0, .int 0, .int 0] j)) j hj
theorem bk_O : zBlank zCl 7 [.long 0, .null] := by
  intro C T N h j hj
  obtain ⟨rfl, rfl, rfl⟩ : C = "PartlisterLaw$Out" ∧ T = T_O ∧ N = 2 := by
    have h1 := Option.some.inj h
    exact ⟨(congrArg Prod.fst h1).symm, (congrArg (fun q => q.2.1) h1).symm, (congrArg (fun q => q.2.2) h1).symm⟩
  exact (by decide +kernel : ∀ j, j < 2 → (parseFieldDescriptor (T_O j).2.2.1).map defaultValue = some (vp_V [.long 0, .null] j)) j hj
theorem bk_ST : zBlank zCl 8 [.null, .int 0, .int 0, .int 0] := by
  intro C T N h j hj
  obtain ⟨rfl, rfl, rfl⟩ : C = "java/lang/String" ∧ T = T_ST ∧ N = 4 := by
    have h1 := Option.some.inj h
    exact ⟨(congrArg Prod.fst h1).symm, (congrArg (fun q => q.2.1) h1).symm, (congrArg (fun q => q.2.2) h1).symm⟩
  exact (by decide +kernel : ∀ j, j < 4 → (parseFieldDescriptor (T_ST j).2.2.1).map defaultValue = some (vp_V [.null, .int 0, .int 0, .int 0] j)) j hj
theorem bk_AL : zBlank zCl 9 [.null, .int 0, .int 0] := by
  intro C T N h j hj
  obtain ⟨rfl, rfl, rfl⟩ : C = "java/util/ArrayList" ∧ T = T_AL ∧ N = 3 := by
    have h1 := Option.some.inj h
    exact ⟨(congrArg Prod.fst h1).symm, (congrArg (fun q => q.2.1) h1).symm, (congrArg (fun q => q.2.2) h1).symm⟩
  exact (by decide +kernel : ∀ j, j < 3 → (parseFieldDescriptor (T_AL j).2.2.1).map defaultValue = some (vp_V [.null, .int 0, .int 0] j)) j hj
theorem bk_SB : zBlank zCl 10 [.null, .int 0, .int 0, .int 0] := by
  intro C T N h j hj
  obtain ⟨rfl, rfl, rfl⟩ : C = "java/lang/StringBuilder" ∧ T = T_SB ∧ N = 4 := by
    have h1 := Option.some.inj h
    exact ⟨(congrArg Prod.fst h1).symm, (congrArg (fun q => q.2.1) h1).symm, (congrArg (fun q => q.2.2) h1).symm⟩
  exact (by decide +kernel : ∀ j, j < 4 → (parseFieldDescriptor (T_SB j).2.2.1).map defaultValue = some (vp_V [.null, .int 0, .int 0, .int 0] j)) j hj
theorem ini_L : Cond.initialized "PartlisterLaw" ∈ zT := zU1 0 (by decide +kernel) rfl
theorem ini_X : Cond.initialized "Partlister" ∈ zT := zU1 1 (by decide +kernel) rfl
theorem ini_I : Cond.initialized "Partlister$Lists" ∈ zT := zU1 2 (by decide +kernel) rfl
theorem ini_N : Cond.initialized "Partlister$Numbers" ∈ zT := zU1 3 (by decide +kernel) rfl
theorem ini_U : Cond.initialized "Partlister$Cursors" ∈ zT := zU1 4 (by decide +kernel) rfl
theorem ini_M : Cond.initialized "PartlisterModel" ∈ zT := zU1 5 (by decide +kernel) rfl
theorem ini_AC : Cond.initialized "java/util/AbstractCollection" ∈ zT := zU1 6 (by decide +kernel) rfl
theorem ini_AY : Cond.initialized "java/util/AbstractList" ∈ zT := zU1 7 (by decide +kernel) rfl
theorem ini_AL : Cond.initialized "java/util/ArrayList" ∈ zT := zU1 8 (by decide +kernel) rfl
theorem ini_AS : Cond.initialized "jdk/internal/util/ArraysSupport" ∈ zT := zU1 9 (by decide +kernel) rfl
theorem ini_MA : Cond.initialized "java/lang/Math" ∈ zT := zU1 10 (by decide +kernel) rfl
theorem ini_AR : Cond.initialized "java/util/Arrays" ∈ zT := zU1 11 (by decide +kernel) rfl
theorem ini_SY : Cond.initialized "java/lang/System" ∈ zT := zU1 12 (by decide +kernel) rfl
theorem ini_O : Cond.initialized "PartlisterLaw$Out" ∈ zT := zU1 13 (by decide +kernel) rfl
theorem ini_TH : Cond.initialized "java/lang/Throwable" ∈ zT := zU1 14 (by decide +kernel) rfl
theorem ini_EX : Cond.initialized "java/lang/Exception" ∈ zT := zU1 15 (by decide +kernel) rfl
theorem ini_RX : Cond.initialized "java/lang/RuntimeException" ∈ zT := zU1 16 (by decide +kernel) rfl
theorem ini_IOE : Cond.initialized "java/lang/IndexOutOfBoundsException" ∈ zT := zU1 17 (by decide +kernel) rfl
theorem ini_IAE : Cond.initialized "java/lang/IllegalArgumentException" ∈ zT := zU1 18 (by decide +kernel) rfl
theorem ini_ISE : Cond.initialized "java/lang/IllegalStateException" ∈ zT := zU1 19 (by decide +kernel) rfl
theorem ini_OB : Cond.initialized "java/util/Objects" ∈ zT := zU1 20 (by decide +kernel) rfl
theorem ini_PC : Cond.initialized "jdk/internal/util/Preconditions" ∈ zT := zU1 21 (by decide +kernel) rfl
theorem ini_AB : Cond.initialized "java/lang/AbstractStringBuilder" ∈ zT := zU1 22 (by decide +kernel) rfl
theorem ini_SB : Cond.initialized "java/lang/StringBuilder" ∈ zT := zU1 23 (by decide +kernel) rfl
theorem ini_ST : Cond.initialized "java/lang/String" ∈ zT := zU1 24 (by decide +kernel) rfl
theorem ini_U6 : Cond.initialized "java/lang/StringUTF16" ∈ zT := zU1 25 (by decide +kernel) rfl
theorem ini_L1 : Cond.initialized "java/lang/StringLatin1" ∈ zT := zU1 26 (by decide +kernel) rfl
theorem ini_NU : Cond.initialized "java/lang/Number" ∈ zT := zU1 27 (by decide +kernel) rfl
theorem ini_IN : Cond.initialized "java/lang/Integer" ∈ zT := zU1 28 (by decide +kernel) rfl
theorem ini_MP : Cond.initialized "PartlisterModel$Part" ∈ zT := zU1 29 (by decide +kernel) rfl
theorem ini_MC : Cond.initialized "PartlisterModel$Cursor" ∈ zT := zU1 30 (by decide +kernel) rfl
def m_X_init : zM := (⟨"Partlister", "<init>", "()V"⟩, prog_1_method_1_code, 1, (Option.none : Option Jvm.ClassFile.FieldType))
set_option maxRecDepth 20000 in
theorem cb_X_init : zCb m_X_init 0 := ⟨zU1 35 (by rfl) rfl, ini_X, pqn0, pqd1, by decide⟩
theorem in_X_init : Cond.instanceMethod m_X_init.1 ∈ zT := zU1 34 (by decide +kernel) rfl
def m_X_add : zM := (⟨"Partlister", "add", "(II)I"⟩, prog_1_method_2_code, 3, (Option.some Jvm.ClassFile.FieldType.int))
set_option maxRecDepth 20000 in
theorem cb_X_add : zCb m_X_add 2 := ⟨zU2 128 (by rfl) rfl, ini_X, pqn0, pqd2, by decide⟩
theorem in_X_add : Cond.instanceMethod m_X_add.1 ∈ zT := zU2 126 (by decide +kernel) rfl
theorem se_X_add : Cond.selects "Partlister" m_X_add.1 m_X_add.1 ∈ zT := zU2 127 (by decide +kernel) rfl
def m_X_addAll : zM := (⟨"Partlister", "addAll", "(III)I"⟩, prog_1_method_4_code, 4, (Option.some Jvm.ClassFile.FieldType.int))
set_option maxRecDepth 20000 in
theorem cb_X_addAll : zCb m_X_addAll 3 := ⟨zU3 74 (by rfl) rfl, ini_X, pqn0, pqd3, by decide⟩
theorem in_X_addAll : Cond.instanceMethod m_X_addAll.1 ∈ zT := zU3 72 (by decide +kernel) rfl
theorem se_X_addAll : Cond.selects "Partlister" m_X_addAll.1 m_X_addAll.1 ∈ zT := zU3 73 (by decide +kernel) rfl
def m_X_addAt : zM := (⟨"Partlister", "addAt", "(III)I"⟩, prog_1_method_3_code, 5, (Option.some Jvm.ClassFile.FieldType.int))
set_option maxRecDepth 20000 in
theorem cb_X_addAt : zCb m_X_addAt 3 := ⟨zU3 62 (by rfl) rfl, ini_X, pqn0, pqd3, by decide⟩
theorem in_X_addAt : Cond.instanceMethod m_X_addAt.1 ∈ zT := zU3 60 (by decide +kernel) rfl
theorem se_X_addAt : Cond.selects "Partlister" m_X_addAt.1 m_X_addAt.1 ∈ zT := zU3 61 (by decide +kernel) rfl
def m_X_append : zM := (⟨"Partlister", "append", "(II)I"⟩, prog_1_method_5_code, 3, (Option.some Jvm.ClassFile.FieldType.int))
set_option maxRecDepth 20000 in
theorem cb_X_append : zCb m_X_append 2 := ⟨zU3 90 (by rfl) rfl, ini_X, pqn0, pqd2, by decide⟩
theorem in_X_append : Cond.instanceMethod m_X_append.1 ∈ zT := zU3 88 (by decide +kernel) rfl
theorem se_X_append : Cond.selects "Partlister" m_X_append.1 m_X_append.1 ∈ zT := zU3 89 (by decide +kernel) rfl
def m_X_areApart : zM := (⟨"Partlister", "areApart", "(II)Z"⟩, prog_1_method_37_code, 3, (Option.some Jvm.ClassFile.FieldType.boolean))
set_option maxRecDepth 20000 in
theorem cb_X_areApart : zCb m_X_areApart 2 := ⟨zU4 176 (by rfl) rfl, ini_X, pqn0, pqd4, by decide⟩
theorem in_X_areApart : Cond.instanceMethod m_X_areApart.1 ∈ zT := zU4 174 (by decide +kernel) rfl
theorem se_X_areApart : Cond.selects "Partlister" m_X_areApart.1 m_X_areApart.1 ∈ zT := zU4 175 (by decide +kernel) rfl
def m_X_assign : zM := (⟨"Partlister", "assign", "(II)I"⟩, prog_1_method_14_code, 4, (Option.some Jvm.ClassFile.FieldType.int))
set_option maxRecDepth 20000 in
theorem cb_X_assign : zCb m_X_assign 2 := ⟨zU3 185 (by rfl) rfl, ini_X, pqn0, pqd2, by decide⟩
theorem in_X_assign : Cond.instanceMethod m_X_assign.1 ∈ zT := zU3 183 (by decide +kernel) rfl
theorem se_X_assign : Cond.selects "Partlister" m_X_assign.1 m_X_assign.1 ∈ zT := zU3 184 (by decide +kernel) rfl
def m_X_bringAll : zM := (⟨"Partlister", "bringAll", "(III)I"⟩, prog_1_method_56_code, 6, (Option.some Jvm.ClassFile.FieldType.int))
set_option maxRecDepth 20000 in
theorem cb_X_bringAll : zCb m_X_bringAll 3 := ⟨zU3 83 (by rfl) rfl, ini_X, pqn0, pqd3, by decide⟩
theorem in_X_bringAll : Cond.instanceMethod m_X_bringAll.1 ∈ zT := zU3 82 (by decide +kernel) rfl
theorem se_X_bringAll : Cond.selects "Partlister" m_X_bringAll.1 m_X_bringAll.1 ∈ zT := zT_s (⟨"Partlister", "bringAll", "(III)I"⟩, 5) (by decide +kernel) rfl rfl
def m_X_bringIn : zM := (⟨"Partlister", "bringIn", "(IIII)V"⟩, prog_1_method_55_code, 5, (Option.none : Option Jvm.ClassFile.FieldType))
set_option maxRecDepth 20000 in
theorem cb_X_bringIn : zCb m_X_bringIn 4 := ⟨zU3 12 (by rfl) rfl, ini_X, pqn0, pqd5, by decide⟩
theorem in_X_bringIn : Cond.instanceMethod m_X_bringIn.1 ∈ zT := zU3 11 (by decide +kernel) rfl
theorem se_X_bringIn : Cond.selects "Partlister" m_X_bringIn.1 m_X_bringIn.1 ∈ zT := zT_s (⟨"Partlister", "bringIn", "(IIII)V"⟩, 5) (by decide +kernel) rfl rfl
def m_X_clear : zM := (⟨"Partlister", "clear", "(I)I"⟩, prog_1_method_12_code, 2, (Option.some Jvm.ClassFile.FieldType.int))
set_option maxRecDepth 20000 in
theorem cb_X_clear : zCb m_X_clear 1 := ⟨zU3 164 (by rfl) rfl, ini_X, pqn0, pqd6, by decide⟩
theorem in_X_clear : Cond.instanceMethod m_X_clear.1 ∈ zT := zU3 162 (by decide +kernel) rfl
theorem se_X_clear : Cond.selects "Partlister" m_X_clear.1 m_X_clear.1 ∈ zT := zU3 163 (by decide +kernel) rfl
def m_X_close : zM := (⟨"Partlister", "close", "(I)I"⟩, prog_1_method_21_code, 4, (Option.some Jvm.ClassFile.FieldType.int))
set_option maxRecDepth 20000 in
theorem cb_X_close : zCb m_X_close 1 := ⟨zU4 31 (by rfl) rfl, ini_X, pqn0, pqd6, by decide⟩
theorem in_X_close : Cond.instanceMethod m_X_close.1 ∈ zT := zU4 29 (by decide +kernel) rfl
theorem se_X_close : Cond.selects "Partlister" m_X_close.1 m_X_close.1 ∈ zT := zU4 30 (by decide +kernel) rfl
def m_X_countDigits : zM := (⟨"Partlister", "countDigits", "(I)I"⟩, prog_1_method_69_code, 4, (Option.some Jvm.ClassFile.FieldType.int))
set_option maxRecDepth 20000 in
theorem cb_X_countDigits : zCb m_X_countDigits 1 := ⟨zU2 47 (by rfl) rfl, ini_X, pqn0, pqd6, by decide⟩
theorem st_X_countDigits : Cond.static m_X_countDigits.1 ∈ zT := zU2 46 (by decide +kernel) rfl
def m_X_countSigns : zM := (⟨"Partlister", "countSigns", "(I)I"⟩, prog_1_method_68_code, 6, (Option.some Jvm.ClassFile.FieldType.int))
set_option maxRecDepth 20000 in
theorem cb_X_countSigns : zCb m_X_countSigns 1 := ⟨zU2 44 (by rfl) rfl, ini_X, pqn0, pqd6, by decide⟩
theorem in_X_countSigns : Cond.instanceMethod m_X_countSigns.1 ∈ zT := zU2 43 (by decide +kernel) rfl
theorem se_X_countSigns : Cond.selects "Partlister" m_X_countSigns.1 m_X_countSigns.1 ∈ zT := zT_s (⟨"Partlister", "countSigns", "(I)I"⟩, 5) (by decide +kernel) rfl rfl
def m_X_cursor : zM := (⟨"Partlister", "cursor", "(II)I"⟩, prog_1_method_22_code, 4, (Option.some Jvm.ClassFile.FieldType.int))
set_option maxRecDepth 20000 in
theorem cb_X_cursor : zCb m_X_cursor 2 := ⟨zU4 47 (by rfl) rfl, ini_X, pqn0, pqd2, by decide⟩
theorem in_X_cursor : Cond.instanceMethod m_X_cursor.1 ∈ zT := zU4 45 (by decide +kernel) rfl
theorem se_X_cursor : Cond.selects "Partlister" m_X_cursor.1 m_X_cursor.1 ∈ zT := zU4 46 (by decide +kernel) rfl
def m_X_digest : zM := (⟨"Partlister", "digest", "()J"⟩, prog_1_method_49_code, 5, (Option.some Jvm.ClassFile.FieldType.long))
set_option maxRecDepth 20000 in
theorem cb_X_digest : zCb m_X_digest 0 := ⟨zU1 221 (by rfl) rfl, ini_X, pqn0, pqd7, by decide⟩
theorem in_X_digest : Cond.instanceMethod m_X_digest.1 ∈ zT := zU1 219 (by decide +kernel) rfl
theorem se_X_digest : Cond.selects "Partlister" m_X_digest.1 m_X_digest.1 ∈ zT := zU1 220 (by decide +kernel) rfl
def m_X_drop : zM := (⟨"Partlister", "drop", "(I)I"⟩, prog_1_method_26_code, 4, (Option.some Jvm.ClassFile.FieldType.int))
set_option maxRecDepth 20000 in
theorem cb_X_drop : zCb m_X_drop 1 := ⟨zU4 98 (by rfl) rfl, ini_X, pqn0, pqd6, by decide⟩
theorem in_X_drop : Cond.instanceMethod m_X_drop.1 ∈ zT := zU4 96 (by decide +kernel) rfl
theorem se_X_drop : Cond.selects "Partlister" m_X_drop.1 m_X_drop.1 ∈ zT := zU4 97 (by decide +kernel) rfl
def m_X_end : zM := (⟨"Partlister", "end", "(I)Z"⟩, prog_1_method_29_code, 3, (Option.some Jvm.ClassFile.FieldType.boolean))
set_option maxRecDepth 20000 in
theorem cb_X_end : zCb m_X_end 1 := ⟨zU4 119 (by rfl) rfl, ini_X, pqn0, pqd8, by decide⟩
theorem in_X_end : Cond.instanceMethod m_X_end.1 ∈ zT := zU4 117 (by decide +kernel) rfl
theorem se_X_end : Cond.selects "Partlister" m_X_end.1 m_X_end.1 ∈ zT := zU4 118 (by decide +kernel) rfl
def m_X_endAround : zM := (⟨"Partlister", "endAround", "(I)I"⟩, prog_1_method_60_code, 4, (Option.some Jvm.ClassFile.FieldType.int))
set_option maxRecDepth 20000 in
theorem cb_X_endAround : zCb m_X_endAround 1 := ⟨zU3 177 (by rfl) rfl, ini_X, pqn0, pqd6, by decide⟩
theorem in_X_endAround : Cond.instanceMethod m_X_endAround.1 ∈ zT := zU3 176 (by decide +kernel) rfl
theorem se_X_endAround : Cond.selects "Partlister" m_X_endAround.1 m_X_endAround.1 ∈ zT := zT_s (⟨"Partlister", "endAround", "(I)I"⟩, 5) (by decide +kernel) rfl rfl
def m_X_endByLength : zM := (⟨"Partlister", "endByLength", "(II)V"⟩, prog_1_method_59_code, 4, (Option.none : Option Jvm.ClassFile.FieldType))
set_option maxRecDepth 20000 in
theorem cb_X_endByLength : zCb m_X_endByLength 2 := ⟨zU3 29 (by rfl) rfl, ini_X, pqn0, pqd9, by decide⟩
theorem in_X_endByLength : Cond.instanceMethod m_X_endByLength.1 ∈ zT := zU3 28 (by decide +kernel) rfl
theorem se_X_endByLength : Cond.selects "Partlister" m_X_endByLength.1 m_X_endByLength.1 ∈ zT := zT_s (⟨"Partlister", "endByLength", "(II)V"⟩, 5) (by decide +kernel) rfl rfl
def m_X_exchange : zM := (⟨"Partlister", "exchange", "(III)Z"⟩, prog_1_method_19_code, 4, (Option.some Jvm.ClassFile.FieldType.boolean))
set_option maxRecDepth 20000 in
theorem cb_X_exchange : zCb m_X_exchange 3 := ⟨zU4 7 (by rfl) rfl, ini_X, pqn0, pqd10, by decide⟩
theorem in_X_exchange : Cond.instanceMethod m_X_exchange.1 ∈ zT := zU4 5 (by decide +kernel) rfl
theorem se_X_exchange : Cond.selects "Partlister" m_X_exchange.1 m_X_exchange.1 ∈ zT := zU4 6 (by decide +kernel) rfl
def m_X_extreme : zM := (⟨"Partlister", "extreme", "(IZ)I"⟩, prog_1_method_41_code, 3, (Option.some Jvm.ClassFile.FieldType.int))
set_option maxRecDepth 20000 in
theorem cb_X_extreme : zCb m_X_extreme 2 := ⟨zU4 213 (by rfl) rfl, ini_X, pqn0, pqd11, by decide⟩
theorem in_X_extreme : Cond.instanceMethod m_X_extreme.1 ∈ zT := zU4 211 (by decide +kernel) rfl
theorem se_X_extreme : Cond.selects "Partlister" m_X_extreme.1 m_X_extreme.1 ∈ zT := zU4 212 (by decide +kernel) rfl
def m_X_failWith : zM := (⟨"Partlister", "failWith", "(I)I"⟩, prog_1_method_62_code, 2, (Option.some Jvm.ClassFile.FieldType.int))
set_option maxRecDepth 20000 in
theorem cb_X_failWith : zCb m_X_failWith 1 := ⟨zU4 76 (by rfl) rfl, ini_X, pqn0, pqd6, by decide⟩
theorem in_X_failWith : Cond.instanceMethod m_X_failWith.1 ∈ zT := zU4 75 (by decide +kernel) rfl
theorem se_X_failWith : Cond.selects "Partlister" m_X_failWith.1 m_X_failWith.1 ∈ zT := zT_s (⟨"Partlister", "failWith", "(I)I"⟩, 5) (by decide +kernel) rfl rfl
def m_X_find : zM := (⟨"Partlister", "find", "(II)I"⟩, prog_1_method_39_code, 3, (Option.some Jvm.ClassFile.FieldType.int))
set_option maxRecDepth 20000 in
theorem cb_X_find : zCb m_X_find 2 := ⟨zU4 190 (by rfl) rfl, ini_X, pqn0, pqd2, by decide⟩
theorem in_X_find : Cond.instanceMethod m_X_find.1 ∈ zT := zU4 188 (by decide +kernel) rfl
theorem se_X_find : Cond.selects "Partlister" m_X_find.1 m_X_find.1 ∈ zT := zU4 189 (by decide +kernel) rfl
def m_X_first : zM := (⟨"Partlister", "first", "(II)I"⟩, prog_1_method_33_code, 3, (Option.some Jvm.ClassFile.FieldType.int))
set_option maxRecDepth 20000 in
theorem cb_X_first : zCb m_X_first 2 := ⟨zU4 148 (by rfl) rfl, ini_X, pqn0, pqd2, by decide⟩
theorem in_X_first : Cond.instanceMethod m_X_first.1 ∈ zT := zU4 146 (by decide +kernel) rfl
theorem se_X_first : Cond.selects "Partlister" m_X_first.1 m_X_first.1 ∈ zT := zU4 147 (by decide +kernel) rfl
def m_X_hasAll : zM := (⟨"Partlister", "hasAll", "(II)Z"⟩, prog_1_method_36_code, 3, (Option.some Jvm.ClassFile.FieldType.boolean))
set_option maxRecDepth 20000 in
theorem cb_X_hasAll : zCb m_X_hasAll 2 := ⟨zU4 169 (by rfl) rfl, ini_X, pqn0, pqd4, by decide⟩
theorem in_X_hasAll : Cond.instanceMethod m_X_hasAll.1 ∈ zT := zU4 167 (by decide +kernel) rfl
theorem se_X_hasAll : Cond.selects "Partlister" m_X_hasAll.1 m_X_hasAll.1 ∈ zT := zU4 168 (by decide +kernel) rfl
def m_X_hasToBeAhead : zM := (⟨"Partlister", "hasToBeAhead", "(III)Z"⟩, prog_1_method_53_code, 5, (Option.some Jvm.ClassFile.FieldType.boolean))
set_option maxRecDepth 20000 in
theorem cb_X_hasToBeAhead : zCb m_X_hasToBeAhead 3 := ⟨zU1 199 (by rfl) rfl, ini_X, pqn0, pqd10, by decide⟩
theorem st_X_hasToBeAhead : Cond.static m_X_hasToBeAhead.1 ∈ zT := zU1 198 (by decide +kernel) rfl
def m_X_hash : zM := (⟨"Partlister", "hash", "(I)I"⟩, prog_1_method_42_code, 2, (Option.some Jvm.ClassFile.FieldType.int))
set_option maxRecDepth 20000 in
theorem cb_X_hash : zCb m_X_hash 1 := ⟨zU4 220 (by rfl) rfl, ini_X, pqn0, pqd6, by decide⟩
theorem in_X_hash : Cond.instanceMethod m_X_hash.1 ∈ zT := zU4 218 (by decide +kernel) rfl
theorem se_X_hash : Cond.selects "Partlister" m_X_hash.1 m_X_hash.1 ∈ zT := zU4 219 (by decide +kernel) rfl
def m_X_house : zM := (⟨"Partlister", "house", "(I)I"⟩, prog_1_method_46_code, 2, (Option.some Jvm.ClassFile.FieldType.int))
set_option maxRecDepth 20000 in
theorem cb_X_house : zCb m_X_house 1 := ⟨zU6 37 (by rfl) rfl, ini_X, pqn0, pqd6, by decide⟩
theorem in_X_house : Cond.instanceMethod m_X_house.1 ∈ zT := zU6 35 (by decide +kernel) rfl
theorem se_X_house : Cond.selects "Partlister" m_X_house.1 m_X_house.1 ∈ zT := zU6 36 (by decide +kernel) rfl
def m_X_insert : zM := (⟨"Partlister", "insert", "(II)I"⟩, prog_1_method_27_code, 6, (Option.some Jvm.ClassFile.FieldType.int))
set_option maxRecDepth 20000 in
theorem cb_X_insert : zCb m_X_insert 2 := ⟨zU4 105 (by rfl) rfl, ini_X, pqn0, pqd2, by decide⟩
theorem in_X_insert : Cond.instanceMethod m_X_insert.1 ∈ zT := zU4 103 (by decide +kernel) rfl
theorem se_X_insert : Cond.selects "Partlister" m_X_insert.1 m_X_insert.1 ∈ zT := zU4 104 (by decide +kernel) rfl
def m_X_isOnRowOf : zM := (⟨"Partlister", "isOnRowOf", "(II)Z"⟩, prog_1_method_61_code, 3, (Option.some Jvm.ClassFile.FieldType.boolean))
set_option maxRecDepth 20000 in
theorem cb_X_isOnRowOf : zCb m_X_isOnRowOf 2 := ⟨zU3 45 (by rfl) rfl, ini_X, pqn0, pqd4, by decide⟩
theorem in_X_isOnRowOf : Cond.instanceMethod m_X_isOnRowOf.1 ∈ zT := zU3 44 (by decide +kernel) rfl
theorem se_X_isOnRowOf : Cond.selects "Partlister" m_X_isOnRowOf.1 m_X_isOnRowOf.1 ∈ zT := zT_s (⟨"Partlister", "isOnRowOf", "(II)Z"⟩, 5) (by decide +kernel) rfl rfl
def m_X_isSame : zM := (⟨"Partlister", "isSame", "(II)Z"⟩, prog_1_method_38_code, 3, (Option.some Jvm.ClassFile.FieldType.boolean))
set_option maxRecDepth 20000 in
theorem cb_X_isSame : zCb m_X_isSame 2 := ⟨zU4 183 (by rfl) rfl, ini_X, pqn0, pqd4, by decide⟩
theorem in_X_isSame : Cond.instanceMethod m_X_isSame.1 ∈ zT := zU4 181 (by decide +kernel) rfl
theorem se_X_isSame : Cond.selects "Partlister" m_X_isSame.1 m_X_isSame.1 ∈ zT := zU4 182 (by decide +kernel) rfl
def m_X_isSound : zM := (⟨"Partlister", "isSound", "()Z"⟩, prog_1_method_47_code, 1, (Option.some Jvm.ClassFile.FieldType.boolean))
set_option maxRecDepth 20000 in
theorem cb_X_isSound : zCb m_X_isSound 0 := ⟨zU1 125 (by rfl) rfl, ini_X, pqn0, pqd12, by decide⟩
theorem in_X_isSound : Cond.instanceMethod m_X_isSound.1 ∈ zT := zU1 123 (by decide +kernel) rfl
theorem se_X_isSound : Cond.selects "Partlister" m_X_isSound.1 m_X_isSound.1 ∈ zT := zU1 124 (by decide +kernel) rfl
def m_X_key : zM := (⟨"Partlister", "key", "(II)I"⟩, prog_1_method_31_code, 3, (Option.some Jvm.ClassFile.FieldType.int))
set_option maxRecDepth 20000 in
theorem cb_X_key : zCb m_X_key 2 := ⟨zU4 134 (by rfl) rfl, ini_X, pqn0, pqd2, by decide⟩
theorem in_X_key : Cond.instanceMethod m_X_key.1 ∈ zT := zU4 132 (by decide +kernel) rfl
theorem se_X_key : Cond.selects "Partlister" m_X_key.1 m_X_key.1 ∈ zT := zU4 133 (by decide +kernel) rfl
def m_X_keyOf : zM := (⟨"Partlister", "keyOf", "(I)I"⟩, prog_1_method_51_code, 1, (Option.some Jvm.ClassFile.FieldType.int))
set_option maxRecDepth 20000 in
theorem cb_X_keyOf : zCb m_X_keyOf 1 := ⟨zU1 180 (by rfl) rfl, ini_X, pqn0, pqd6, by decide⟩
theorem st_X_keyOf : Cond.static m_X_keyOf.1 ∈ zT := zU1 179 (by decide +kernel) rfl
def m_X_knock : zM := (⟨"Partlister", "knock", "()I"⟩, prog_1_method_48_code, 1, (Option.some Jvm.ClassFile.FieldType.int))
set_option maxRecDepth 20000 in
theorem cb_X_knock : zCb m_X_knock 0 := ⟨zU1 217 (by rfl) rfl, ini_X, pqn0, pqd13, by decide⟩
theorem in_X_knock : Cond.instanceMethod m_X_knock.1 ∈ zT := zU1 215 (by decide +kernel) rfl
theorem se_X_knock : Cond.selects "Partlister" m_X_knock.1 m_X_knock.1 ∈ zT := zU1 216 (by decide +kernel) rfl
def m_X_last : zM := (⟨"Partlister", "last", "(II)I"⟩, prog_1_method_34_code, 3, (Option.some Jvm.ClassFile.FieldType.int))
set_option maxRecDepth 20000 in
theorem cb_X_last : zCb m_X_last 2 := ⟨zU4 155 (by rfl) rfl, ini_X, pqn0, pqd2, by decide⟩
theorem in_X_last : Cond.instanceMethod m_X_last.1 ∈ zT := zU4 153 (by decide +kernel) rfl
theorem se_X_last : Cond.selects "Partlister" m_X_last.1 m_X_last.1 ∈ zT := zU4 154 (by decide +kernel) rfl
def m_X_make : zM := (⟨"Partlister", "make", "(I)I"⟩, prog_1_method_54_code, 3, (Option.some Jvm.ClassFile.FieldType.int))
set_option maxRecDepth 20000 in
theorem cb_X_make : zCb m_X_make 1 := ⟨zU3 5 (by rfl) rfl, ini_X, pqn0, pqd6, by decide⟩
theorem in_X_make : Cond.instanceMethod m_X_make.1 ∈ zT := zU3 4 (by decide +kernel) rfl
theorem se_X_make : Cond.selects "Partlister" m_X_make.1 m_X_make.1 ∈ zT := zT_s (⟨"Partlister", "make", "(I)I"⟩, 5) (by decide +kernel) rfl rfl
def m_X_many : zM := (⟨"Partlister", "many", "(II)I"⟩, prog_1_method_35_code, 3, (Option.some Jvm.ClassFile.FieldType.int))
set_option maxRecDepth 20000 in
theorem cb_X_many : zCb m_X_many 2 := ⟨zU4 162 (by rfl) rfl, ini_X, pqn0, pqd2, by decide⟩
theorem in_X_many : Cond.instanceMethod m_X_many.1 ∈ zT := zU4 160 (by decide +kernel) rfl
theorem se_X_many : Cond.selects "Partlister" m_X_many.1 m_X_many.1 ∈ zT := zU4 161 (by decide +kernel) rfl
def m_X_mix : zM := (⟨"Partlister", "mix", "(JJ)J"⟩, prog_1_method_65_code, 4, (Option.some Jvm.ClassFile.FieldType.long))
set_option maxRecDepth 20000 in
theorem cb_X_mix : zCb m_X_mix 2 := ⟨zU2 18 (by rfl) rfl, ini_X, pqn0, pqd14, by decide⟩
theorem st_X_mix : Cond.static m_X_mix.1 ∈ zT := zU2 17 (by decide +kernel) rfl
def m_X_mixList : zM := (⟨"Partlister", "mixList", "(JI)J"⟩, prog_1_method_66_code, 9, (Option.some Jvm.ClassFile.FieldType.long))
set_option maxRecDepth 20000 in
theorem cb_X_mixList : zCb m_X_mixList 2 := ⟨zU2 25 (by rfl) rfl, ini_X, pqn0, pqd15, by decide⟩
theorem in_X_mixList : Cond.instanceMethod m_X_mixList.1 ∈ zT := zU2 24 (by decide +kernel) rfl
theorem se_X_mixList : Cond.selects "Partlister" m_X_mixList.1 m_X_mixList.1 ∈ zT := zT_s (⟨"Partlister", "mixList", "(JI)J"⟩, 5) (by decide +kernel) rfl rfl
def m_X_mixPair : zM := (⟨"Partlister", "mixPair", "(JII)J"⟩, prog_1_method_67_code, 7, (Option.some Jvm.ClassFile.FieldType.long))
set_option maxRecDepth 20000 in
theorem cb_X_mixPair : zCb m_X_mixPair 3 := ⟨zU2 59 (by rfl) rfl, ini_X, pqn0, pqd16, by decide⟩
theorem in_X_mixPair : Cond.instanceMethod m_X_mixPair.1 ∈ zT := zU2 58 (by decide +kernel) rfl
theorem se_X_mixPair : Cond.selects "Partlister" m_X_mixPair.1 m_X_mixPair.1 ∈ zT := zT_s (⟨"Partlister", "mixPair", "(JII)J"⟩, 5) (by decide +kernel) rfl rfl
def m_X_move : zM := (⟨"Partlister", "move", "(II)I"⟩, prog_1_method_18_code, 3, (Option.some Jvm.ClassFile.FieldType.int))
set_option maxRecDepth 20000 in
theorem cb_X_move : zCb m_X_move 2 := ⟨zU3 232 (by rfl) rfl, ini_X, pqn0, pqd2, by decide⟩
theorem in_X_move : Cond.instanceMethod m_X_move.1 ∈ zT := zU3 230 (by decide +kernel) rfl
theorem se_X_move : Cond.selects "Partlister" m_X_move.1 m_X_move.1 ∈ zT := zU3 231 (by decide +kernel) rfl
def m_X_needCursor : zM := (⟨"Partlister", "needCursor", "(I)V"⟩, prog_1_method_73_code, 2, (Option.none : Option Jvm.ClassFile.FieldType))
set_option maxRecDepth 20000 in
theorem cb_X_needCursor : zCb m_X_needCursor 1 := ⟨zU4 71 (by rfl) rfl, ini_X, pqn0, pqd17, by decide⟩
theorem in_X_needCursor : Cond.instanceMethod m_X_needCursor.1 ∈ zT := zU4 70 (by decide +kernel) rfl
theorem se_X_needCursor : Cond.selects "Partlister" m_X_needCursor.1 m_X_needCursor.1 ∈ zT := zT_s (⟨"Partlister", "needCursor", "(I)V"⟩, 5) (by decide +kernel) rfl rfl
def m_X_needGap : zM := (⟨"Partlister", "needGap", "(II)V"⟩, prog_1_method_75_code, 3, (Option.none : Option Jvm.ClassFile.FieldType))
set_option maxRecDepth 20000 in
theorem cb_X_needGap : zCb m_X_needGap 2 := ⟨zU3 66 (by rfl) rfl, ini_X, pqn0, pqd9, by decide⟩
theorem in_X_needGap : Cond.instanceMethod m_X_needGap.1 ∈ zT := zU3 65 (by decide +kernel) rfl
theorem se_X_needGap : Cond.selects "Partlister" m_X_needGap.1 m_X_needGap.1 ∈ zT := zT_s (⟨"Partlister", "needGap", "(II)V"⟩, 5) (by decide +kernel) rfl rfl
def m_X_needKey : zM := (⟨"Partlister", "needKey", "(I)V"⟩, prog_1_method_76_code, 2, (Option.none : Option Jvm.ClassFile.FieldType))
set_option maxRecDepth 20000 in
theorem cb_X_needKey : zCb m_X_needKey 1 := ⟨zU2 204 (by rfl) rfl, ini_X, pqn0, pqd17, by decide⟩
theorem in_X_needKey : Cond.instanceMethod m_X_needKey.1 ∈ zT := zU2 203 (by decide +kernel) rfl
theorem se_X_needKey : Cond.selects "Partlister" m_X_needKey.1 m_X_needKey.1 ∈ zT := zT_s (⟨"Partlister", "needKey", "(I)V"⟩, 5) (by decide +kernel) rfl rfl
def m_X_needList : zM := (⟨"Partlister", "needList", "(I)V"⟩, prog_1_method_70_code, 2, (Option.none : Option Jvm.ClassFile.FieldType))
set_option maxRecDepth 20000 in
theorem cb_X_needList : zCb m_X_needList 1 := ⟨zU2 132 (by rfl) rfl, ini_X, pqn0, pqd17, by decide⟩
theorem in_X_needList : Cond.instanceMethod m_X_needList.1 ∈ zT := zU2 131 (by decide +kernel) rfl
theorem se_X_needList : Cond.selects "Partlister" m_X_needList.1 m_X_needList.1 ∈ zT := zT_s (⟨"Partlister", "needList", "(I)V"⟩, 5) (by decide +kernel) rfl rfl
def m_X_needOtherRow : zM := (⟨"Partlister", "needOtherRow", "(II)V"⟩, prog_1_method_78_code, 3, (Option.none : Option Jvm.ClassFile.FieldType))
set_option maxRecDepth 20000 in
theorem cb_X_needOtherRow : zCb m_X_needOtherRow 2 := ⟨zU3 78 (by rfl) rfl, ini_X, pqn0, pqd9, by decide⟩
theorem in_X_needOtherRow : Cond.instanceMethod m_X_needOtherRow.1 ∈ zT := zU3 77 (by decide +kernel) rfl
theorem se_X_needOtherRow : Cond.selects "Partlister" m_X_needOtherRow.1 m_X_needOtherRow.1 ∈ zT := zT_s (⟨"Partlister", "needOtherRow", "(II)V"⟩, 5) (by decide +kernel) rfl rfl
def m_X_needPart : zM := (⟨"Partlister", "needPart", "(I)V"⟩, prog_1_method_72_code, 2, (Option.none : Option Jvm.ClassFile.FieldType))
set_option maxRecDepth 20000 in
theorem cb_X_needPart : zCb m_X_needPart 1 := ⟨zU4 35 (by rfl) rfl, ini_X, pqn0, pqd17, by decide⟩
theorem in_X_needPart : Cond.instanceMethod m_X_needPart.1 ∈ zT := zU4 34 (by decide +kernel) rfl
theorem se_X_needPart : Cond.selects "Partlister" m_X_needPart.1 m_X_needPart.1 ∈ zT := zT_s (⟨"Partlister", "needPart", "(I)V"⟩, 5) (by decide +kernel) rfl rfl
def m_X_needPlace : zM := (⟨"Partlister", "needPlace", "(II)V"⟩, prog_1_method_74_code, 3, (Option.none : Option Jvm.ClassFile.FieldType))
set_option maxRecDepth 20000 in
theorem cb_X_needPlace : zCb m_X_needPlace 2 := ⟨zU3 101 (by rfl) rfl, ini_X, pqn0, pqd9, by decide⟩
theorem in_X_needPlace : Cond.instanceMethod m_X_needPlace.1 ∈ zT := zU3 100 (by decide +kernel) rfl
theorem se_X_needPlace : Cond.selects "Partlister" m_X_needPlace.1 m_X_needPlace.1 ∈ zT := zT_s (⟨"Partlister", "needPlace", "(II)V"⟩, 5) (by decide +kernel) rfl rfl
def m_X_needRoom : zM := (⟨"Partlister", "needRoom", "(II)V"⟩, prog_1_method_77_code, 3, (Option.none : Option Jvm.ClassFile.FieldType))
set_option maxRecDepth 20000 in
theorem cb_X_needRoom : zCb m_X_needRoom 2 := ⟨zU2 224 (by rfl) rfl, ini_X, pqn0, pqd9, by decide⟩
theorem in_X_needRoom : Cond.instanceMethod m_X_needRoom.1 ∈ zT := zU2 223 (by decide +kernel) rfl
theorem se_X_needRoom : Cond.selects "Partlister" m_X_needRoom.1 m_X_needRoom.1 ∈ zT := zT_s (⟨"Partlister", "needRoom", "(II)V"⟩, 5) (by decide +kernel) rfl rfl
def m_X_needRow : zM := (⟨"Partlister", "needRow", "(I)V"⟩, prog_1_method_71_code, 2, (Option.none : Option Jvm.ClassFile.FieldType))
set_option maxRecDepth 20000 in
theorem cb_X_needRow : zCb m_X_needRow 1 := ⟨zU3 189 (by rfl) rfl, ini_X, pqn0, pqd17, by decide⟩
theorem in_X_needRow : Cond.instanceMethod m_X_needRow.1 ∈ zT := zU3 188 (by decide +kernel) rfl
theorem se_X_needRow : Cond.selects "Partlister" m_X_needRow.1 m_X_needRow.1 ∈ zT := zT_s (⟨"Partlister", "needRow", "(I)V"⟩, 5) (by decide +kernel) rfl rfl
def m_X_next : zM := (⟨"Partlister", "next", "(I)I"⟩, prog_1_method_23_code, 4, (Option.some Jvm.ClassFile.FieldType.int))
set_option maxRecDepth 20000 in
theorem cb_X_next : zCb m_X_next 1 := ⟨zU4 67 (by rfl) rfl, ini_X, pqn0, pqd6, by decide⟩
theorem in_X_next : Cond.instanceMethod m_X_next.1 ∈ zT := zU4 65 (by decide +kernel) rfl
theorem se_X_next : Cond.selects "Partlister" m_X_next.1 m_X_next.1 ∈ zT := zU4 66 (by decide +kernel) rfl
def m_X_ofCursor : zM := (⟨"Partlister", "ofCursor", "(II)I"⟩, prog_1_method_45_code, 3, (Option.some Jvm.ClassFile.FieldType.int))
set_option maxRecDepth 20000 in
theorem cb_X_ofCursor : zCb m_X_ofCursor 2 := ⟨zU6 28 (by rfl) rfl, ini_X, pqn0, pqd2, by decide⟩
theorem in_X_ofCursor : Cond.instanceMethod m_X_ofCursor.1 ∈ zT := zU6 26 (by decide +kernel) rfl
theorem se_X_ofCursor : Cond.selects "Partlister" m_X_ofCursor.1 m_X_ofCursor.1 ∈ zT := zU6 27 (by decide +kernel) rfl
def m_X_ofPart : zM := (⟨"Partlister", "ofPart", "(II)I"⟩, prog_1_method_44_code, 3, (Option.some Jvm.ClassFile.FieldType.int))
set_option maxRecDepth 20000 in
theorem cb_X_ofPart : zCb m_X_ofPart 2 := ⟨zU6 20 (by rfl) rfl, ini_X, pqn0, pqd2, by decide⟩
theorem in_X_ofPart : Cond.instanceMethod m_X_ofPart.1 ∈ zT := zU6 18 (by decide +kernel) rfl
theorem se_X_ofPart : Cond.selects "Partlister" m_X_ofPart.1 m_X_ofPart.1 ∈ zT := zU6 19 (by decide +kernel) rfl
def m_X_pack : zM := (⟨"Partlister", "pack", "(IZ)I"⟩, prog_1_method_15_code, 3, (Option.some Jvm.ClassFile.FieldType.int))
set_option maxRecDepth 20000 in
theorem cb_X_pack : zCb m_X_pack 2 := ⟨zU3 201 (by rfl) rfl, ini_X, pqn0, pqd11, by decide⟩
theorem in_X_pack : Cond.instanceMethod m_X_pack.1 ∈ zT := zU3 199 (by decide +kernel) rfl
theorem se_X_pack : Cond.selects "Partlister" m_X_pack.1 m_X_pack.1 ∈ zT := zU3 200 (by decide +kernel) rfl
def m_X_part : zM := (⟨"Partlister", "part", "(III)I"⟩, prog_1_method_20_code, 5, (Option.some Jvm.ClassFile.FieldType.int))
set_option maxRecDepth 20000 in
theorem cb_X_part : zCb m_X_part 3 := ⟨zU4 14 (by rfl) rfl, ini_X, pqn0, pqd3, by decide⟩
theorem in_X_part : Cond.instanceMethod m_X_part.1 ∈ zT := zU4 12 (by decide +kernel) rfl
theorem se_X_part : Cond.selects "Partlister" m_X_part.1 m_X_part.1 ∈ zT := zU4 13 (by decide +kernel) rfl
def m_X_previous : zM := (⟨"Partlister", "previous", "(I)I"⟩, prog_1_method_24_code, 3, (Option.some Jvm.ClassFile.FieldType.int))
set_option maxRecDepth 20000 in
theorem cb_X_previous : zCb m_X_previous 1 := ⟨zU4 84 (by rfl) rfl, ini_X, pqn0, pqd6, by decide⟩
theorem in_X_previous : Cond.instanceMethod m_X_previous.1 ∈ zT := zU4 82 (by decide +kernel) rfl
theorem se_X_previous : Cond.selects "Partlister" m_X_previous.1 m_X_previous.1 ∈ zT := zU4 83 (by decide +kernel) rfl
def m_X_put : zM := (⟨"Partlister", "put", "(II)I"⟩, prog_1_method_25_code, 5, (Option.some Jvm.ClassFile.FieldType.int))
set_option maxRecDepth 20000 in
theorem cb_X_put : zCb m_X_put 2 := ⟨zU4 91 (by rfl) rfl, ini_X, pqn0, pqd2, by decide⟩
theorem in_X_put : Cond.instanceMethod m_X_put.1 ∈ zT := zU4 89 (by decide +kernel) rfl
theorem se_X_put : Cond.selects "Partlister" m_X_put.1 m_X_put.1 ∈ zT := zU4 90 (by decide +kernel) rfl
def m_X_remove : zM := (⟨"Partlister", "remove", "(II)Z"⟩, prog_1_method_8_code, 4, (Option.some Jvm.ClassFile.FieldType.boolean))
set_option maxRecDepth 20000 in
theorem cb_X_remove : zCb m_X_remove 2 := ⟨zU3 125 (by rfl) rfl, ini_X, pqn0, pqd4, by decide⟩
theorem in_X_remove : Cond.instanceMethod m_X_remove.1 ∈ zT := zU3 123 (by decide +kernel) rfl
theorem se_X_remove : Cond.selects "Partlister" m_X_remove.1 m_X_remove.1 ∈ zT := zU3 124 (by decide +kernel) rfl
def m_X_removeAll : zM := (⟨"Partlister", "removeAll", "(II)I"⟩, prog_1_method_9_code, 3, (Option.some Jvm.ClassFile.FieldType.int))
set_option maxRecDepth 20000 in
theorem cb_X_removeAll : zCb m_X_removeAll 2 := ⟨zU3 132 (by rfl) rfl, ini_X, pqn0, pqd2, by decide⟩
theorem in_X_removeAll : Cond.instanceMethod m_X_removeAll.1 ∈ zT := zU3 130 (by decide +kernel) rfl
theorem se_X_removeAll : Cond.selects "Partlister" m_X_removeAll.1 m_X_removeAll.1 ∈ zT := zU3 131 (by decide +kernel) rfl
def m_X_removeAt : zM := (⟨"Partlister", "removeAt", "(II)I"⟩, prog_1_method_7_code, 3, (Option.some Jvm.ClassFile.FieldType.int))
set_option maxRecDepth 20000 in
theorem cb_X_removeAt : zCb m_X_removeAt 2 := ⟨zU3 110 (by rfl) rfl, ini_X, pqn0, pqd2, by decide⟩
theorem in_X_removeAt : Cond.instanceMethod m_X_removeAt.1 ∈ zT := zU3 108 (by decide +kernel) rfl
theorem se_X_removeAt : Cond.selects "Partlister" m_X_removeAt.1 m_X_removeAt.1 ∈ zT := zU3 109 (by decide +kernel) rfl
def m_X_removeIf : zM := (⟨"Partlister", "removeIf", "(III)I"⟩, prog_1_method_11_code, 6, (Option.some Jvm.ClassFile.FieldType.int))
set_option maxRecDepth 20000 in
theorem cb_X_removeIf : zCb m_X_removeIf 3 := ⟨zU3 155 (by rfl) rfl, ini_X, pqn0, pqd3, by decide⟩
theorem in_X_removeIf : Cond.instanceMethod m_X_removeIf.1 ∈ zT := zU3 153 (by decide +kernel) rfl
theorem se_X_removeIf : Cond.selects "Partlister" m_X_removeIf.1 m_X_removeIf.1 ∈ zT := zU3 154 (by decide +kernel) rfl
def m_X_replaceAll : zM := (⟨"Partlister", "replaceAll", "(III)I"⟩, prog_1_method_13_code, 7, (Option.some Jvm.ClassFile.FieldType.int))
set_option maxRecDepth 20000 in
theorem cb_X_replaceAll : zCb m_X_replaceAll 3 := ⟨zU3 171 (by rfl) rfl, ini_X, pqn0, pqd3, by decide⟩
theorem in_X_replaceAll : Cond.instanceMethod m_X_replaceAll.1 ∈ zT := zU3 169 (by decide +kernel) rfl
theorem se_X_replaceAll : Cond.selects "Partlister" m_X_replaceAll.1 m_X_replaceAll.1 ∈ zT := zU3 170 (by decide +kernel) rfl
def m_X_retainAll : zM := (⟨"Partlister", "retainAll", "(II)I"⟩, prog_1_method_10_code, 3, (Option.some Jvm.ClassFile.FieldType.int))
set_option maxRecDepth 20000 in
theorem cb_X_retainAll : zCb m_X_retainAll 2 := ⟨zU3 148 (by rfl) rfl, ini_X, pqn0, pqd2, by decide⟩
theorem in_X_retainAll : Cond.instanceMethod m_X_retainAll.1 ∈ zT := zU3 146 (by decide +kernel) rfl
theorem se_X_retainAll : Cond.selects "Partlister" m_X_retainAll.1 m_X_retainAll.1 ∈ zT := zU3 147 (by decide +kernel) rfl
def m_X_run : zM := (⟨"Partlister", "run", "(IZ)I"⟩, prog_1_method_28_code, 6, (Option.some Jvm.ClassFile.FieldType.int))
set_option maxRecDepth 20000 in
theorem cb_X_run : zCb m_X_run 2 := ⟨zU4 112 (by rfl) rfl, ini_X, pqn0, pqd11, by decide⟩
theorem in_X_run : Cond.instanceMethod m_X_run.1 ∈ zT := zU4 110 (by decide +kernel) rfl
theorem se_X_run : Cond.selects "Partlister" m_X_run.1 m_X_run.1 ∈ zT := zU4 111 (by decide +kernel) rfl
def m_X_set : zM := (⟨"Partlister", "set", "(III)I"⟩, prog_1_method_6_code, 5, (Option.some Jvm.ClassFile.FieldType.int))
set_option maxRecDepth 20000 in
theorem cb_X_set : zCb m_X_set 3 := ⟨zU3 97 (by rfl) rfl, ini_X, pqn0, pqd3, by decide⟩
theorem in_X_set : Cond.instanceMethod m_X_set.1 ∈ zT := zU3 95 (by decide +kernel) rfl
theorem se_X_set : Cond.selects "Partlister" m_X_set.1 m_X_set.1 ∈ zT := zU3 96 (by decide +kernel) rfl
def m_X_size : zM := (⟨"Partlister", "size", "(I)I"⟩, prog_1_method_30_code, 2, (Option.some Jvm.ClassFile.FieldType.int))
set_option maxRecDepth 20000 in
theorem cb_X_size : zCb m_X_size 1 := ⟨zU4 126 (by rfl) rfl, ini_X, pqn0, pqd6, by decide⟩
theorem in_X_size : Cond.instanceMethod m_X_size.1 ∈ zT := zU4 124 (by decide +kernel) rfl
theorem se_X_size : Cond.selects "Partlister" m_X_size.1 m_X_size.1 ∈ zT := zU4 125 (by decide +kernel) rfl
def m_X_sort : zM := (⟨"Partlister", "sort", "(II)I"⟩, prog_1_method_16_code, 4, (Option.some Jvm.ClassFile.FieldType.int))
set_option maxRecDepth 20000 in
theorem cb_X_sort : zCb m_X_sort 2 := ⟨zU3 208 (by rfl) rfl, ini_X, pqn0, pqd2, by decide⟩
theorem in_X_sort : Cond.instanceMethod m_X_sort.1 ∈ zT := zU3 206 (by decide +kernel) rfl
theorem se_X_sort : Cond.selects "Partlister" m_X_sort.1 m_X_sort.1 ∈ zT := zU3 207 (by decide +kernel) rfl
def m_X_spot : zM := (⟨"Partlister", "spot", "(II)I"⟩, prog_1_method_40_code, 3, (Option.some Jvm.ClassFile.FieldType.int))
set_option maxRecDepth 20000 in
theorem cb_X_spot : zCb m_X_spot 2 := ⟨zU4 197 (by rfl) rfl, ini_X, pqn0, pqd2, by decide⟩
theorem in_X_spot : Cond.instanceMethod m_X_spot.1 ∈ zT := zU4 195 (by decide +kernel) rfl
theorem se_X_spot : Cond.selects "Partlister" m_X_spot.1 m_X_spot.1 ∈ zT := zU4 196 (by decide +kernel) rfl
def m_X_tag : zM := (⟨"Partlister", "tag", "(II)I"⟩, prog_1_method_32_code, 3, (Option.some Jvm.ClassFile.FieldType.int))
set_option maxRecDepth 20000 in
theorem cb_X_tag : zCb m_X_tag 2 := ⟨zU4 141 (by rfl) rfl, ini_X, pqn0, pqd2, by decide⟩
theorem in_X_tag : Cond.instanceMethod m_X_tag.1 ∈ zT := zU4 139 (by decide +kernel) rfl
theorem se_X_tag : Cond.selects "Partlister" m_X_tag.1 m_X_tag.1 ∈ zT := zU4 140 (by decide +kernel) rfl
def m_X_tagOf : zM := (⟨"Partlister", "tagOf", "(I)I"⟩, prog_1_method_52_code, 1, (Option.some Jvm.ClassFile.FieldType.int))
set_option maxRecDepth 20000 in
theorem cb_X_tagOf : zCb m_X_tagOf 1 := ⟨zU1 203 (by rfl) rfl, ini_X, pqn0, pqd6, by decide⟩
theorem st_X_tagOf : Cond.static m_X_tagOf.1 ∈ zT := zU1 202 (by decide +kernel) rfl
def m_X_takeOut : zM := (⟨"Partlister", "takeOut", "(III)I"⟩, prog_1_method_57_code, 5, (Option.some Jvm.ClassFile.FieldType.int))
set_option maxRecDepth 20000 in
theorem cb_X_takeOut : zCb m_X_takeOut 3 := ⟨zU3 114 (by rfl) rfl, ini_X, pqn0, pqd3, by decide⟩
theorem in_X_takeOut : Cond.instanceMethod m_X_takeOut.1 ∈ zT := zU3 113 (by decide +kernel) rfl
theorem se_X_takeOut : Cond.selects "Partlister" m_X_takeOut.1 m_X_takeOut.1 ∈ zT := zT_s (⟨"Partlister", "takeOut", "(III)I"⟩, 5) (by decide +kernel) rfl rfl
def m_X_takeOutAll : zM := (⟨"Partlister", "takeOutAll", "(II)I"⟩, prog_1_method_58_code, 4, (Option.some Jvm.ClassFile.FieldType.int))
set_option maxRecDepth 20000 in
theorem cb_X_takeOutAll : zCb m_X_takeOutAll 2 := ⟨zU3 137 (by rfl) rfl, ini_X, pqn0, pqd2, by decide⟩
theorem in_X_takeOutAll : Cond.instanceMethod m_X_takeOutAll.1 ∈ zT := zU3 136 (by decide +kernel) rfl
theorem se_X_takeOutAll : Cond.selects "Partlister" m_X_takeOutAll.1 m_X_takeOutAll.1 ∈ zT := zT_s (⟨"Partlister", "takeOutAll", "(II)I"⟩, 5) (by decide +kernel) rfl rfl
def m_X_text : zM := (⟨"Partlister", "text", "(I)Ljava/lang/String;"⟩, prog_1_method_43_code, 6, (Option.some (Jvm.ClassFile.FieldType.object "java/lang/String")))
set_option maxRecDepth 20000 in
theorem cb_X_text : zCb m_X_text 1 := ⟨zU4 227 (by rfl) rfl, ini_X, pqn0, pqd18, by decide⟩
theorem in_X_text : Cond.instanceMethod m_X_text.1 ∈ zT := zU4 225 (by decide +kernel) rfl
theorem se_X_text : Cond.selects "Partlister" m_X_text.1 m_X_text.1 ∈ zT := zU4 226 (by decide +kernel) rfl
def m_X_thingOf : zM := (⟨"Partlister", "thingOf", "(II)I"⟩, prog_1_method_50_code, 2, (Option.some Jvm.ClassFile.FieldType.int))
set_option maxRecDepth 20000 in
theorem cb_X_thingOf : zCb m_X_thingOf 2 := ⟨zU3 8 (by rfl) rfl, ini_X, pqn0, pqd2, by decide⟩
theorem st_X_thingOf : Cond.static m_X_thingOf.1 ∈ zT := zU3 7 (by decide +kernel) rfl
def m_X_turn : zM := (⟨"Partlister", "turn", "(I)I"⟩, prog_1_method_17_code, 4, (Option.some Jvm.ClassFile.FieldType.int))
set_option maxRecDepth 20000 in
theorem cb_X_turn : zCb m_X_turn 1 := ⟨zU3 221 (by rfl) rfl, ini_X, pqn0, pqd6, by decide⟩
theorem in_X_turn : Cond.instanceMethod m_X_turn.1 ∈ zT := zU3 219 (by decide +kernel) rfl
theorem se_X_turn : Cond.selects "Partlister" m_X_turn.1 m_X_turn.1 ∈ zT := zU3 220 (by decide +kernel) rfl
def m_X_worthOfCursor : zM := (⟨"Partlister", "worthOfCursor", "(II)I"⟩, prog_1_method_63_code, 5, (Option.some Jvm.ClassFile.FieldType.int))
set_option maxRecDepth 20000 in
theorem cb_X_worthOfCursor : zCb m_X_worthOfCursor 2 := ⟨zU2 87 (by rfl) rfl, ini_X, pqn0, pqd2, by decide⟩
theorem in_X_worthOfCursor : Cond.instanceMethod m_X_worthOfCursor.1 ∈ zT := zU2 86 (by decide +kernel) rfl
theorem se_X_worthOfCursor : Cond.selects "Partlister" m_X_worthOfCursor.1 m_X_worthOfCursor.1 ∈ zT := zT_s (⟨"Partlister", "worthOfCursor", "(II)I"⟩, 5) (by decide +kernel) rfl rfl
def m_X_worthOfHouse : zM := (⟨"Partlister", "worthOfHouse", "(I)I"⟩, prog_1_method_64_code, 2, (Option.some Jvm.ClassFile.FieldType.int))
set_option maxRecDepth 20000 in
theorem cb_X_worthOfHouse : zCb m_X_worthOfHouse 1 := ⟨zU1 226 (by rfl) rfl, ini_X, pqn0, pqd6, by decide⟩
theorem in_X_worthOfHouse : Cond.instanceMethod m_X_worthOfHouse.1 ∈ zT := zU1 225 (by decide +kernel) rfl
theorem se_X_worthOfHouse : Cond.selects "Partlister" m_X_worthOfHouse.1 m_X_worthOfHouse.1 ∈ zT := zT_s (⟨"Partlister", "worthOfHouse", "(I)I"⟩, 5) (by decide +kernel) rfl rfl
def m_U_init : zM := (⟨"Partlister$Cursors", "<init>", "()V"⟩, prog_2_method_1_code, 1, (Option.none : Option Jvm.ClassFile.FieldType))
set_option maxRecDepth 20000 in
theorem cb_U_init : zCb m_U_init 0 := ⟨zU1 86 (by rfl) rfl, ini_U, pqn19, pqd1, by decide⟩
theorem in_U_init : Cond.instanceMethod m_U_init.1 ∈ zT := zU1 85 (by decide +kernel) rfl
def m_U_countEnded : zM := (⟨"Partlister$Cursors", "countEnded", "()I"⟩, prog_2_method_15_code, 1, (Option.some Jvm.ClassFile.FieldType.int))
set_option maxRecDepth 20000 in
theorem cb_U_countEnded : zCb m_U_countEnded 0 := ⟨zU2 15 (by rfl) rfl, ini_U, pqn19, pqd13, by decide⟩
theorem in_U_countEnded : Cond.instanceMethod m_U_countEnded.1 ∈ zT := zU2 13 (by decide +kernel) rfl
theorem se_U_countEnded : Cond.selects "Partlister$Cursors" m_U_countEnded.1 m_U_countEnded.1 ∈ zT := zU2 14 (by decide +kernel) rfl
def m_U_countStale : zM := (⟨"Partlister$Cursors", "countStale", "()I"⟩, prog_2_method_14_code, 3, (Option.some Jvm.ClassFile.FieldType.int))
set_option maxRecDepth 20000 in
theorem cb_U_countStale : zCb m_U_countStale 0 := ⟨zU2 7 (by rfl) rfl, ini_U, pqn19, pqd13, by decide⟩
theorem in_U_countStale : Cond.instanceMethod m_U_countStale.1 ∈ zT := zU2 5 (by decide +kernel) rfl
theorem se_U_countStale : Cond.selects "Partlister$Cursors" m_U_countStale.1 m_U_countStale.1 ∈ zT := zU2 6 (by decide +kernel) rfl
def m_U_countThere : zM := (⟨"Partlister$Cursors", "countThere", "()I"⟩, prog_2_method_13_code, 3, (Option.some Jvm.ClassFile.FieldType.int))
set_option maxRecDepth 20000 in
theorem cb_U_countThere : zCb m_U_countThere 0 := ⟨zU1 234 (by rfl) rfl, ini_U, pqn19, pqd13, by decide⟩
theorem in_U_countThere : Cond.instanceMethod m_U_countThere.1 ∈ zT := zU1 232 (by decide +kernel) rfl
theorem se_U_countThere : Cond.selects "Partlister$Cursors" m_U_countThere.1 m_U_countThere.1 ∈ zT := zU1 233 (by decide +kernel) rfl
def m_U_finish : zM := (⟨"Partlister$Cursors", "finish", "(I)V"⟩, prog_2_method_12_code, 2, (Option.none : Option Jvm.ClassFile.FieldType))
set_option maxRecDepth 20000 in
theorem cb_U_finish : zCb m_U_finish 1 := ⟨zU3 55 (by rfl) rfl, ini_U, pqn19, pqd17, by decide⟩
theorem in_U_finish : Cond.instanceMethod m_U_finish.1 ∈ zT := zU3 53 (by decide +kernel) rfl
theorem se_U_finish : Cond.selects "Partlister$Cursors" m_U_finish.1 m_U_finish.1 ∈ zT := zU3 54 (by decide +kernel) rfl
def m_U_freeCursor : zM := (⟨"Partlister$Cursors", "freeCursor", "()I"⟩, prog_2_method_8_code, 2, (Option.some Jvm.ClassFile.FieldType.int))
set_option maxRecDepth 20000 in
theorem cb_U_freeCursor : zCb m_U_freeCursor 0 := ⟨zU4 51 (by rfl) rfl, ini_U, pqn19, pqd13, by decide⟩
theorem in_U_freeCursor : Cond.instanceMethod m_U_freeCursor.1 ∈ zT := zU4 49 (by decide +kernel) rfl
theorem se_U_freeCursor : Cond.selects "Partlister$Cursors" m_U_freeCursor.1 m_U_freeCursor.1 ∈ zT := zU4 50 (by decide +kernel) rfl
def m_U_isStale : zM := (⟨"Partlister$Cursors", "isStale", "(I)Z"⟩, prog_2_method_3_code, 2, (Option.some Jvm.ClassFile.FieldType.boolean))
set_option maxRecDepth 20000 in
theorem cb_U_isStale : zCb m_U_isStale 1 := ⟨zU2 2 (by rfl) rfl, ini_U, pqn19, pqd8, by decide⟩
theorem in_U_isStale : Cond.instanceMethod m_U_isStale.1 ∈ zT := zU2 0 (by decide +kernel) rfl
theorem se_U_isStale : Cond.selects "Partlister$Cursors" m_U_isStale.1 m_U_isStale.1 ∈ zT := zU2 1 (by decide +kernel) rfl
def m_U_isThere : zM := (⟨"Partlister$Cursors", "isThere", "(I)Z"⟩, prog_2_method_2_code, 2, (Option.some Jvm.ClassFile.FieldType.boolean))
set_option maxRecDepth 20000 in
theorem cb_U_isThere : zCb m_U_isThere 1 := ⟨zU1 238 (by rfl) rfl, ini_U, pqn19, pqd8, by decide⟩
theorem in_U_isThere : Cond.instanceMethod m_U_isThere.1 ∈ zT := zU1 236 (by decide +kernel) rfl
theorem se_U_isThere : Cond.selects "Partlister$Cursors" m_U_isThere.1 m_U_isThere.1 ∈ zT := zU1 237 (by decide +kernel) rfl
def m_U_lastOf : zM := (⟨"Partlister$Cursors", "lastOf", "(I)I"⟩, prog_2_method_7_code, 2, (Option.some Jvm.ClassFile.FieldType.int))
set_option maxRecDepth 20000 in
theorem cb_U_lastOf : zCb m_U_lastOf 1 := ⟨zU2 105 (by rfl) rfl, ini_U, pqn19, pqd6, by decide⟩
theorem in_U_lastOf : Cond.instanceMethod m_U_lastOf.1 ∈ zT := zU2 103 (by decide +kernel) rfl
theorem se_U_lastOf : Cond.selects "Partlister$Cursors" m_U_lastOf.1 m_U_lastOf.1 ∈ zT := zU2 104 (by decide +kernel) rfl
def m_U_listOf : zM := (⟨"Partlister$Cursors", "listOf", "(I)I"⟩, prog_2_method_5_code, 2, (Option.some Jvm.ClassFile.FieldType.int))
set_option maxRecDepth 20000 in
theorem cb_U_listOf : zCb m_U_listOf 1 := ⟨zU2 96 (by rfl) rfl, ini_U, pqn19, pqd6, by decide⟩
theorem in_U_listOf : Cond.instanceMethod m_U_listOf.1 ∈ zT := zU2 94 (by decide +kernel) rfl
theorem se_U_listOf : Cond.selects "Partlister$Cursors" m_U_listOf.1 m_U_listOf.1 ∈ zT := zU2 95 (by decide +kernel) rfl
def m_U_nextOf : zM := (⟨"Partlister$Cursors", "nextOf", "(I)I"⟩, prog_2_method_6_code, 2, (Option.some Jvm.ClassFile.FieldType.int))
set_option maxRecDepth 20000 in
theorem cb_U_nextOf : zCb m_U_nextOf 1 := ⟨zU2 101 (by rfl) rfl, ini_U, pqn19, pqd6, by decide⟩
theorem in_U_nextOf : Cond.instanceMethod m_U_nextOf.1 ∈ zT := zU2 99 (by decide +kernel) rfl
theorem se_U_nextOf : Cond.selects "Partlister$Cursors" m_U_nextOf.1 m_U_nextOf.1 ∈ zT := zU2 100 (by decide +kernel) rfl
def m_U_stand : zM := (⟨"Partlister$Cursors", "stand", "(III)V"⟩, prog_2_method_10_code, 4, (Option.none : Option Jvm.ClassFile.FieldType))
set_option maxRecDepth 20000 in
theorem cb_U_stand : zCb m_U_stand 3 := ⟨zU4 60 (by rfl) rfl, ini_U, pqn19, pqd20, by decide⟩
theorem in_U_stand : Cond.instanceMethod m_U_stand.1 ∈ zT := zU4 58 (by decide +kernel) rfl
theorem se_U_stand : Cond.selects "Partlister$Cursors" m_U_stand.1 m_U_stand.1 ∈ zT := zU4 59 (by decide +kernel) rfl
def m_U_start : zM := (⟨"Partlister$Cursors", "start", "(III)V"⟩, prog_2_method_9_code, 4, (Option.none : Option Jvm.ClassFile.FieldType))
set_option maxRecDepth 20000 in
theorem cb_U_start : zCb m_U_start 3 := ⟨zU4 56 (by rfl) rfl, ini_U, pqn19, pqd20, by decide⟩
theorem in_U_start : Cond.instanceMethod m_U_start.1 ∈ zT := zU4 54 (by decide +kernel) rfl
theorem se_U_start : Cond.selects "Partlister$Cursors" m_U_start.1 m_U_start.1 ∈ zT := zU4 55 (by decide +kernel) rfl
def m_U_stateOf : zM := (⟨"Partlister$Cursors", "stateOf", "(I)I"⟩, prog_2_method_4_code, 2, (Option.some Jvm.ClassFile.FieldType.int))
set_option maxRecDepth 20000 in
theorem cb_U_stateOf : zCb m_U_stateOf 1 := ⟨zU2 91 (by rfl) rfl, ini_U, pqn19, pqd6, by decide⟩
theorem in_U_stateOf : Cond.instanceMethod m_U_stateOf.1 ∈ zT := zU2 89 (by decide +kernel) rfl
theorem se_U_stateOf : Cond.selects "Partlister$Cursors" m_U_stateOf.1 m_U_stateOf.1 ∈ zT := zU2 90 (by decide +kernel) rfl
def m_U_unsettle : zM := (⟨"Partlister$Cursors", "unsettle", "(I)V"⟩, prog_2_method_11_code, 2, (Option.none : Option Jvm.ClassFile.FieldType))
set_option maxRecDepth 20000 in
theorem cb_U_unsettle : zCb m_U_unsettle 1 := ⟨zU3 49 (by rfl) rfl, ini_U, pqn19, pqd17, by decide⟩
theorem in_U_unsettle : Cond.instanceMethod m_U_unsettle.1 ∈ zT := zU3 47 (by decide +kernel) rfl
theorem se_U_unsettle : Cond.selects "Partlister$Cursors" m_U_unsettle.1 m_U_unsettle.1 ∈ zT := zU3 48 (by decide +kernel) rfl
def m_I_init : zM := (⟨"Partlister$Lists", "<init>", "()V"⟩, prog_3_method_1_code, 2, (Option.none : Option Jvm.ClassFile.FieldType))
set_option maxRecDepth 20000 in
theorem cb_I_init : zCb m_I_init 0 := ⟨zU1 43 (by rfl) rfl, ini_I, pqn21, pqd1, by decide⟩
theorem in_I_init : Cond.instanceMethod m_I_init.1 ∈ zT := zU1 42 (by decide +kernel) rfl
def m_I_areKeysFound : zM := (⟨"Partlister$Lists", "areKeysFound", "(I)Z"⟩, prog_3_method_46_code, 7, (Option.some Jvm.ClassFile.FieldType.boolean))
set_option maxRecDepth 20000 in
theorem cb_I_areKeysFound : zCb m_I_areKeysFound 1 := ⟨zU1 173 (by rfl) rfl, ini_I, pqn21, pqd8, by decide⟩
theorem in_I_areKeysFound : Cond.instanceMethod m_I_areKeysFound.1 ∈ zT := zU1 172 (by decide +kernel) rfl
theorem se_I_areKeysFound : Cond.selects "Partlister$Lists" m_I_areKeysFound.1 m_I_areKeysFound.1 ∈ zT := zT_s (⟨"Partlister$Lists", "areKeysFound", "(I)Z"⟩, 7) (by decide +kernel) rfl rfl
def m_I_areSound : zM := (⟨"Partlister$Lists", "areSound", "()Z"⟩, prog_3_method_43_code, 3, (Option.some Jvm.ClassFile.FieldType.boolean))
set_option maxRecDepth 20000 in
theorem cb_I_areSound : zCb m_I_areSound 0 := ⟨zU1 129 (by rfl) rfl, ini_I, pqn21, pqd12, by decide⟩
theorem in_I_areSound : Cond.instanceMethod m_I_areSound.1 ∈ zT := zU1 127 (by decide +kernel) rfl
theorem se_I_areSound : Cond.selects "Partlister$Lists" m_I_areSound.1 m_I_areSound.1 ∈ zT := zU1 128 (by decide +kernel) rfl
def m_I_arrange : zM := (⟨"Partlister$Lists", "arrange", "(II)I"⟩, prog_3_method_16_code, 7, (Option.some Jvm.ClassFile.FieldType.int))
set_option maxRecDepth 20000 in
theorem cb_I_arrange : zCb m_I_arrange 2 := ⟨zU3 213 (by rfl) rfl, ini_I, pqn21, pqd2, by decide⟩
theorem in_I_arrange : Cond.instanceMethod m_I_arrange.1 ∈ zT := zU3 211 (by decide +kernel) rfl
theorem se_I_arrange : Cond.selects "Partlister$Lists" m_I_arrange.1 m_I_arrange.1 ∈ zT := zU3 212 (by decide +kernel) rfl
def m_I_arrangeSpare : zM := (⟨"Partlister$Lists", "arrangeSpare", "(II)V"⟩, prog_3_method_20_code, 6, (Option.none : Option Jvm.ClassFile.FieldType))
set_option maxRecDepth 20000 in
theorem cb_I_arrangeSpare : zCb m_I_arrangeSpare 2 := ⟨zU1 196 (by rfl) rfl, ini_I, pqn21, pqd9, by decide⟩
theorem in_I_arrangeSpare : Cond.instanceMethod m_I_arrangeSpare.1 ∈ zT := zU1 195 (by decide +kernel) rfl
theorem se_I_arrangeSpare : Cond.selects "Partlister$Lists" m_I_arrangeSpare.1 m_I_arrangeSpare.1 ∈ zT := zT_s (⟨"Partlister$Lists", "arrangeSpare", "(II)V"⟩, 7) (by decide +kernel) rfl rfl
def m_I_cellOf : zM := (⟨"Partlister$Lists", "cellOf", "(II)I"⟩, prog_3_method_8_code, 3, (Option.some Jvm.ClassFile.FieldType.int))
set_option maxRecDepth 20000 in
theorem cb_I_cellOf : zCb m_I_cellOf 2 := ⟨zU1 153 (by rfl) rfl, ini_I, pqn21, pqd2, by decide⟩
theorem in_I_cellOf : Cond.instanceMethod m_I_cellOf.1 ∈ zT := zU1 152 (by decide +kernel) rfl
theorem se_I_cellOf : Cond.selects "Partlister$Lists" m_I_cellOf.1 m_I_cellOf.1 ∈ zT := zT_s (⟨"Partlister$Lists", "cellOf", "(II)I"⟩, 7) (by decide +kernel) rfl rfl
def m_I_closeGap : zM := (⟨"Partlister$Lists", "closeGap", "(II)V"⟩, prog_3_method_12_code, 6, (Option.none : Option Jvm.ClassFile.FieldType))
set_option maxRecDepth 20000 in
theorem cb_I_closeGap : zCb m_I_closeGap 2 := ⟨zU3 118 (by rfl) rfl, ini_I, pqn21, pqd9, by decide⟩
theorem in_I_closeGap : Cond.instanceMethod m_I_closeGap.1 ∈ zT := zU3 116 (by decide +kernel) rfl
theorem se_I_closeGap : Cond.selects "Partlister$Lists" m_I_closeGap.1 m_I_closeGap.1 ∈ zT := zU3 117 (by decide +kernel) rfl
def m_I_copyToRow : zM := (⟨"Partlister$Lists", "copyToRow", "(II)V"⟩, prog_3_method_14_code, 5, (Option.none : Option Jvm.ClassFile.FieldType))
set_option maxRecDepth 20000 in
theorem cb_I_copyToRow : zCb m_I_copyToRow 2 := ⟨zU3 194 (by rfl) rfl, ini_I, pqn21, pqd9, by decide⟩
theorem in_I_copyToRow : Cond.instanceMethod m_I_copyToRow.1 ∈ zT := zU3 192 (by decide +kernel) rfl
theorem se_I_copyToRow : Cond.selects "Partlister$Lists" m_I_copyToRow.1 m_I_copyToRow.1 ∈ zT := zU3 193 (by decide +kernel) rfl
def m_I_copyToSpare : zM := (⟨"Partlister$Lists", "copyToSpare", "(I)V"⟩, prog_3_method_17_code, 4, (Option.none : Option Jvm.ClassFile.FieldType))
set_option maxRecDepth 20000 in
theorem cb_I_copyToSpare : zCb m_I_copyToSpare 1 := ⟨zU1 161 (by rfl) rfl, ini_I, pqn21, pqd17, by decide⟩
theorem in_I_copyToSpare : Cond.instanceMethod m_I_copyToSpare.1 ∈ zT := zU1 160 (by decide +kernel) rfl
theorem se_I_copyToSpare : Cond.selects "Partlister$Lists" m_I_copyToSpare.1 m_I_copyToSpare.1 ∈ zT := zT_s (⟨"Partlister$Lists", "copyToSpare", "(I)V"⟩, 7) (by decide +kernel) rfl rfl
def m_I_countBelow : zM := (⟨"Partlister$Lists", "countBelow", "(II)I"⟩, prog_3_method_33_code, 6, (Option.some Jvm.ClassFile.FieldType.int))
set_option maxRecDepth 20000 in
theorem cb_I_countBelow : zCb m_I_countBelow 2 := ⟨zU4 206 (by rfl) rfl, ini_I, pqn21, pqd2, by decide⟩
theorem in_I_countBelow : Cond.instanceMethod m_I_countBelow.1 ∈ zT := zU4 204 (by decide +kernel) rfl
theorem se_I_countBelow : Cond.selects "Partlister$Lists" m_I_countBelow.1 m_I_countBelow.1 ∈ zT := zU4 205 (by decide +kernel) rfl
def m_I_countEnded : zM := (⟨"Partlister$Lists", "countEnded", "()I"⟩, prog_3_method_28_code, 1, (Option.some Jvm.ClassFile.FieldType.int))
set_option maxRecDepth 20000 in
theorem cb_I_countEnded : zCb m_I_countEnded 0 := ⟨zU2 11 (by rfl) rfl, ini_I, pqn21, pqd13, by decide⟩
theorem in_I_countEnded : Cond.instanceMethod m_I_countEnded.1 ∈ zT := zU2 9 (by decide +kernel) rfl
theorem se_I_countEnded : Cond.selects "Partlister$Lists" m_I_countEnded.1 m_I_countEnded.1 ∈ zT := zU2 10 (by decide +kernel) rfl
def m_I_countOf : zM := (⟨"Partlister$Lists", "countOf", "(II)I"⟩, prog_3_method_32_code, 6, (Option.some Jvm.ClassFile.FieldType.int))
set_option maxRecDepth 20000 in
theorem cb_I_countOf : zCb m_I_countOf 2 := ⟨zU2 40 (by rfl) rfl, ini_I, pqn21, pqd2, by decide⟩
theorem in_I_countOf : Cond.instanceMethod m_I_countOf.1 ∈ zT := zU2 38 (by decide +kernel) rfl
theorem se_I_countOf : Cond.selects "Partlister$Lists" m_I_countOf.1 m_I_countOf.1 ∈ zT := zU2 39 (by decide +kernel) rfl
def m_I_countParts : zM := (⟨"Partlister$Lists", "countParts", "()I"⟩, prog_3_method_27_code, 3, (Option.some Jvm.ClassFile.FieldType.int))
set_option maxRecDepth 20000 in
theorem cb_I_countParts : zCb m_I_countParts 0 := ⟨zU1 230 (by rfl) rfl, ini_I, pqn21, pqd13, by decide⟩
theorem in_I_countParts : Cond.instanceMethod m_I_countParts.1 ∈ zT := zU1 228 (by decide +kernel) rfl
theorem se_I_countParts : Cond.selects "Partlister$Lists" m_I_countParts.1 m_I_countParts.1 ∈ zT := zU1 229 (by decide +kernel) rfl
def m_I_endOthers : zM := (⟨"Partlister$Lists", "endOthers", "(I)I"⟩, prog_3_method_24_code, 4, (Option.some Jvm.ClassFile.FieldType.int))
set_option maxRecDepth 20000 in
theorem cb_I_endOthers : zCb m_I_endOthers 1 := ⟨zU3 33 (by rfl) rfl, ini_I, pqn21, pqd6, by decide⟩
theorem in_I_endOthers : Cond.instanceMethod m_I_endOthers.1 ∈ zT := zU3 31 (by decide +kernel) rfl
theorem se_I_endOthers : Cond.selects "Partlister$Lists" m_I_endOthers.1 m_I_endOthers.1 ∈ zT := zU3 32 (by decide +kernel) rfl
def m_I_endWithin : zM := (⟨"Partlister$Lists", "endWithin", "(I)I"⟩, prog_3_method_25_code, 4, (Option.some Jvm.ClassFile.FieldType.int))
set_option maxRecDepth 20000 in
theorem cb_I_endWithin : zCb m_I_endWithin 1 := ⟨zU4 40 (by rfl) rfl, ini_I, pqn21, pqd6, by decide⟩
theorem in_I_endWithin : Cond.instanceMethod m_I_endWithin.1 ∈ zT := zU4 38 (by decide +kernel) rfl
theorem se_I_endWithin : Cond.selects "Partlister$Lists" m_I_endWithin.1 m_I_endWithin.1 ∈ zT := zU4 39 (by decide +kernel) rfl
def m_I_extremeKey : zM := (⟨"Partlister$Lists", "extremeKey", "(IZ)I"⟩, prog_3_method_41_code, 7, (Option.some Jvm.ClassFile.FieldType.int))
set_option maxRecDepth 20000 in
theorem cb_I_extremeKey : zCb m_I_extremeKey 2 := ⟨zU2 34 (by rfl) rfl, ini_I, pqn21, pqd11, by decide⟩
theorem in_I_extremeKey : Cond.instanceMethod m_I_extremeKey.1 ∈ zT := zU2 32 (by decide +kernel) rfl
theorem se_I_extremeKey : Cond.selects "Partlister$Lists" m_I_extremeKey.1 m_I_extremeKey.1 ∈ zT := zU2 33 (by decide +kernel) rfl
def m_I_finish : zM := (⟨"Partlister$Lists", "finish", "(I)V"⟩, prog_3_method_26_code, 2, (Option.none : Option Jvm.ClassFile.FieldType))
set_option maxRecDepth 20000 in
theorem cb_I_finish : zCb m_I_finish 1 := ⟨zU3 41 (by rfl) rfl, ini_I, pqn21, pqd17, by decide⟩
theorem in_I_finish : Cond.instanceMethod m_I_finish.1 ∈ zT := zU3 40 (by decide +kernel) rfl
theorem se_I_finish : Cond.selects "Partlister$Lists" m_I_finish.1 m_I_finish.1 ∈ zT := zT_s (⟨"Partlister$Lists", "finish", "(I)V"⟩, 7) (by decide +kernel) rfl rfl
def m_I_firstOf : zM := (⟨"Partlister$Lists", "firstOf", "(II)I"⟩, prog_3_method_30_code, 5, (Option.some Jvm.ClassFile.FieldType.int))
set_option maxRecDepth 20000 in
theorem cb_I_firstOf : zCb m_I_firstOf 2 := ⟨zU1 184 (by rfl) rfl, ini_I, pqn21, pqd2, by decide⟩
theorem in_I_firstOf : Cond.instanceMethod m_I_firstOf.1 ∈ zT := zU1 182 (by decide +kernel) rfl
theorem se_I_firstOf : Cond.selects "Partlister$Lists" m_I_firstOf.1 m_I_firstOf.1 ∈ zT := zU1 183 (by decide +kernel) rfl
def m_I_freePart : zM := (⟨"Partlister$Lists", "freePart", "()I"⟩, prog_3_method_21_code, 2, (Option.some Jvm.ClassFile.FieldType.int))
set_option maxRecDepth 20000 in
theorem cb_I_freePart : zCb m_I_freePart 0 := ⟨zU4 19 (by rfl) rfl, ini_I, pqn21, pqd13, by decide⟩
theorem in_I_freePart : Cond.instanceMethod m_I_freePart.1 ∈ zT := zU4 17 (by decide +kernel) rfl
theorem se_I_freePart : Cond.selects "Partlister$Lists" m_I_freePart.1 m_I_freePart.1 ∈ zT := zU4 18 (by decide +kernel) rfl
def m_I_hashOf : zM := (⟨"Partlister$Lists", "hashOf", "(I)I"⟩, prog_3_method_42_code, 5, (Option.some Jvm.ClassFile.FieldType.int))
set_option maxRecDepth 20000 in
theorem cb_I_hashOf : zCb m_I_hashOf 1 := ⟨zU2 30 (by rfl) rfl, ini_I, pqn21, pqd6, by decide⟩
theorem in_I_hashOf : Cond.instanceMethod m_I_hashOf.1 ∈ zT := zU2 28 (by decide +kernel) rfl
theorem se_I_hashOf : Cond.selects "Partlister$Lists" m_I_hashOf.1 m_I_hashOf.1 ∈ zT := zU2 29 (by decide +kernel) rfl
def m_I_holdsKeys : zM := (⟨"Partlister$Lists", "holdsKeys", "(II)Z"⟩, prog_3_method_35_code, 3, (Option.some Jvm.ClassFile.FieldType.boolean))
set_option maxRecDepth 20000 in
theorem cb_I_holdsKeys : zCb m_I_holdsKeys 2 := ⟨zU2 71 (by rfl) rfl, ini_I, pqn21, pqd4, by decide⟩
theorem in_I_holdsKeys : Cond.instanceMethod m_I_holdsKeys.1 ∈ zT := zU2 69 (by decide +kernel) rfl
theorem se_I_holdsKeys : Cond.selects "Partlister$Lists" m_I_holdsKeys.1 m_I_holdsKeys.1 ∈ zT := zU2 70 (by decide +kernel) rfl
def m_I_isOrdering : zM := (⟨"Partlister$Lists", "isOrdering", "(II)Z"⟩, prog_3_method_47_code, 7, (Option.some Jvm.ClassFile.FieldType.boolean))
set_option maxRecDepth 20000 in
theorem cb_I_isOrdering : zCb m_I_isOrdering 2 := ⟨zU1 192 (by rfl) rfl, ini_I, pqn21, pqd4, by decide⟩
theorem in_I_isOrdering : Cond.instanceMethod m_I_isOrdering.1 ∈ zT := zU1 191 (by decide +kernel) rfl
theorem se_I_isOrdering : Cond.selects "Partlister$Lists" m_I_isOrdering.1 m_I_isOrdering.1 ∈ zT := zT_s (⟨"Partlister$Lists", "isOrdering", "(II)Z"⟩, 7) (by decide +kernel) rfl rfl
def m_I_isSameBackward : zM := (⟨"Partlister$Lists", "isSameBackward", "(I)Z"⟩, prog_3_method_45_code, 3, (Option.some Jvm.ClassFile.FieldType.boolean))
set_option maxRecDepth 20000 in
theorem cb_I_isSameBackward : zCb m_I_isSameBackward 1 := ⟨zU1 157 (by rfl) rfl, ini_I, pqn21, pqd8, by decide⟩
theorem in_I_isSameBackward : Cond.instanceMethod m_I_isSameBackward.1 ∈ zT := zU1 156 (by decide +kernel) rfl
theorem se_I_isSameBackward : Cond.selects "Partlister$Lists" m_I_isSameBackward.1 m_I_isSameBackward.1 ∈ zT := zT_s (⟨"Partlister$Lists", "isSameBackward", "(I)Z"⟩, 7) (by decide +kernel) rfl rfl
def m_I_isSorted : zM := (⟨"Partlister$Lists", "isSorted", "(I)Z"⟩, prog_3_method_40_code, 4, (Option.some Jvm.ClassFile.FieldType.boolean))
set_option maxRecDepth 20000 in
theorem cb_I_isSorted : zCb m_I_isSorted 1 := ⟨zU4 201 (by rfl) rfl, ini_I, pqn21, pqd8, by decide⟩
theorem in_I_isSorted : Cond.instanceMethod m_I_isSorted.1 ∈ zT := zU4 199 (by decide +kernel) rfl
theorem se_I_isSorted : Cond.selects "Partlister$Lists" m_I_isSorted.1 m_I_isSorted.1 ∈ zT := zU4 200 (by decide +kernel) rfl
def m_I_isThere : zM := (⟨"Partlister$Lists", "isThere", "(I)Z"⟩, prog_3_method_2_code, 2, (Option.some Jvm.ClassFile.FieldType.boolean))
set_option maxRecDepth 20000 in
theorem cb_I_isThere : zCb m_I_isThere 1 := ⟨zU1 133 (by rfl) rfl, ini_I, pqn21, pqd8, by decide⟩
theorem in_I_isThere : Cond.instanceMethod m_I_isThere.1 ∈ zT := zU1 131 (by decide +kernel) rfl
theorem se_I_isThere : Cond.selects "Partlister$Lists" m_I_isThere.1 m_I_isThere.1 ∈ zT := zU1 132 (by decide +kernel) rfl
def m_I_isWithin : zM := (⟨"Partlister$Lists", "isWithin", "(II)Z"⟩, prog_3_method_23_code, 5, (Option.some Jvm.ClassFile.FieldType.boolean))
set_option maxRecDepth 20000 in
theorem cb_I_isWithin : zCb m_I_isWithin 2 := ⟨zU3 37 (by rfl) rfl, ini_I, pqn21, pqd4, by decide⟩
theorem in_I_isWithin : Cond.instanceMethod m_I_isWithin.1 ∈ zT := zU3 36 (by decide +kernel) rfl
theorem se_I_isWithin : Cond.selects "Partlister$Lists" m_I_isWithin.1 m_I_isWithin.1 ∈ zT := zT_s (⟨"Partlister$Lists", "isWithin", "(II)Z"⟩, 7) (by decide +kernel) rfl rfl
def m_I_keyAt : zM := (⟨"Partlister$Lists", "keyAt", "(II)I"⟩, prog_3_method_6_code, 3, (Option.some Jvm.ClassFile.FieldType.int))
set_option maxRecDepth 20000 in
theorem cb_I_keyAt : zCb m_I_keyAt 2 := ⟨zU1 177 (by rfl) rfl, ini_I, pqn21, pqd2, by decide⟩
theorem in_I_keyAt : Cond.instanceMethod m_I_keyAt.1 ∈ zT := zU1 175 (by decide +kernel) rfl
theorem se_I_keyAt : Cond.selects "Partlister$Lists" m_I_keyAt.1 m_I_keyAt.1 ∈ zT := zU1 176 (by decide +kernel) rfl
def m_I_keysOf : zM := (⟨"Partlister$Lists", "keysOf", "(I)I"⟩, prog_3_method_34_code, 5, (Option.some Jvm.ClassFile.FieldType.int))
set_option maxRecDepth 20000 in
theorem cb_I_keysOf : zCb m_I_keysOf 1 := ⟨zU2 75 (by rfl) rfl, ini_I, pqn21, pqd6, by decide⟩
theorem in_I_keysOf : Cond.instanceMethod m_I_keysOf.1 ∈ zT := zU2 73 (by decide +kernel) rfl
theorem se_I_keysOf : Cond.selects "Partlister$Lists" m_I_keysOf.1 m_I_keysOf.1 ∈ zT := zU2 74 (by decide +kernel) rfl
def m_I_lastOf : zM := (⟨"Partlister$Lists", "lastOf", "(II)I"⟩, prog_3_method_31_code, 4, (Option.some Jvm.ClassFile.FieldType.int))
set_option maxRecDepth 20000 in
theorem cb_I_lastOf : zCb m_I_lastOf 2 := ⟨zU1 188 (by rfl) rfl, ini_I, pqn21, pqd2, by decide⟩
theorem in_I_lastOf : Cond.instanceMethod m_I_lastOf.1 ∈ zT := zU1 186 (by decide +kernel) rfl
theorem se_I_lastOf : Cond.selects "Partlister$Lists" m_I_lastOf.1 m_I_lastOf.1 ∈ zT := zU1 187 (by decide +kernel) rfl
def m_I_lengthOf : zM := (⟨"Partlister$Lists", "lengthOf", "(I)I"⟩, prog_3_method_3_code, 2, (Option.some Jvm.ClassFile.FieldType.int))
set_option maxRecDepth 20000 in
theorem cb_I_lengthOf : zCb m_I_lengthOf 1 := ⟨zU1 145 (by rfl) rfl, ini_I, pqn21, pqd6, by decide⟩
theorem in_I_lengthOf : Cond.instanceMethod m_I_lengthOf.1 ∈ zT := zU1 143 (by decide +kernel) rfl
theorem se_I_lengthOf : Cond.selects "Partlister$Lists" m_I_lengthOf.1 m_I_lengthOf.1 ∈ zT := zU1 144 (by decide +kernel) rfl
def m_I_lengthen : zM := (⟨"Partlister$Lists", "lengthen", "(II)V"⟩, prog_3_method_10_code, 5, (Option.none : Option Jvm.ClassFile.FieldType))
set_option maxRecDepth 20000 in
theorem cb_I_lengthen : zCb m_I_lengthen 2 := ⟨zU3 24 (by rfl) rfl, ini_I, pqn21, pqd9, by decide⟩
theorem in_I_lengthen : Cond.instanceMethod m_I_lengthen.1 ∈ zT := zU3 23 (by decide +kernel) rfl
theorem se_I_lengthen : Cond.selects "Partlister$Lists" m_I_lengthen.1 m_I_lengthen.1 ∈ zT := zT_s (⟨"Partlister$Lists", "lengthen", "(II)V"⟩, 7) (by decide +kernel) rfl rfl
def m_I_liesInAbove : zM := (⟨"Partlister$Lists", "liesInAbove", "(I)Z"⟩, prog_3_method_44_code, 6, (Option.some Jvm.ClassFile.FieldType.boolean))
set_option maxRecDepth 20000 in
theorem cb_I_liesInAbove : zCb m_I_liesInAbove 1 := ⟨zU1 141 (by rfl) rfl, ini_I, pqn21, pqd8, by decide⟩
theorem in_I_liesInAbove : Cond.instanceMethod m_I_liesInAbove.1 ∈ zT := zU1 140 (by decide +kernel) rfl
theorem se_I_liesInAbove : Cond.selects "Partlister$Lists" m_I_liesInAbove.1 m_I_liesInAbove.1 ∈ zT := zT_s (⟨"Partlister$Lists", "liesInAbove", "(I)Z"⟩, 7) (by decide +kernel) rfl rfl
def m_I_matchFrom : zM := (⟨"Partlister$Lists", "matchFrom", "(III)Z"⟩, prog_3_method_39_code, 6, (Option.some Jvm.ClassFile.FieldType.boolean))
set_option maxRecDepth 20000 in
theorem cb_I_matchFrom : zCb m_I_matchFrom 3 := ⟨zU2 67 (by rfl) rfl, ini_I, pqn21, pqd10, by decide⟩
theorem in_I_matchFrom : Cond.instanceMethod m_I_matchFrom.1 ∈ zT := zU2 66 (by decide +kernel) rfl
theorem se_I_matchFrom : Cond.selects "Partlister$Lists" m_I_matchFrom.1 m_I_matchFrom.1 ∈ zT := zT_s (⟨"Partlister$Lists", "matchFrom", "(III)Z"⟩, 7) (by decide +kernel) rfl rfl
def m_I_matchWholly : zM := (⟨"Partlister$Lists", "matchWholly", "(II)Z"⟩, prog_3_method_37_code, 3, (Option.some Jvm.ClassFile.FieldType.boolean))
set_option maxRecDepth 20000 in
theorem cb_I_matchWholly : zCb m_I_matchWholly 2 := ⟨zU2 63 (by rfl) rfl, ini_I, pqn21, pqd4, by decide⟩
theorem in_I_matchWholly : Cond.instanceMethod m_I_matchWholly.1 ∈ zT := zU2 61 (by decide +kernel) rfl
theorem se_I_matchWholly : Cond.selects "Partlister$Lists" m_I_matchWholly.1 m_I_matchWholly.1 ∈ zT := zU2 62 (by decide +kernel) rfl
def m_I_mayFollow : zM := (⟨"Partlister$Lists", "mayFollow", "(II)Z"⟩, prog_3_method_48_code, 5, (Option.some Jvm.ClassFile.FieldType.boolean))
set_option maxRecDepth 20000 in
theorem cb_I_mayFollow : zCb m_I_mayFollow 2 := ⟨zU1 207 (by rfl) rfl, ini_I, pqn21, pqd4, by decide⟩
theorem in_I_mayFollow : Cond.instanceMethod m_I_mayFollow.1 ∈ zT := zU1 206 (by decide +kernel) rfl
theorem se_I_mayFollow : Cond.selects "Partlister$Lists" m_I_mayFollow.1 m_I_mayFollow.1 ∈ zT := zT_s (⟨"Partlister$Lists", "mayFollow", "(II)Z"⟩, 7) (by decide +kernel) rfl rfl
def m_I_moveOn : zM := (⟨"Partlister$Lists", "moveOn", "(II)V"⟩, prog_3_method_15_code, 5, (Option.none : Option Jvm.ClassFile.FieldType))
set_option maxRecDepth 20000 in
theorem cb_I_moveOn : zCb m_I_moveOn 2 := ⟨zU3 237 (by rfl) rfl, ini_I, pqn21, pqd9, by decide⟩
theorem in_I_moveOn : Cond.instanceMethod m_I_moveOn.1 ∈ zT := zU3 235 (by decide +kernel) rfl
theorem se_I_moveOn : Cond.selects "Partlister$Lists" m_I_moveOn.1 m_I_moveOn.1 ∈ zT := zU3 236 (by decide +kernel) rfl
def m_I_open : zM := (⟨"Partlister$Lists", "open", "(IIII)V"⟩, prog_3_method_22_code, 5, (Option.none : Option Jvm.ClassFile.FieldType))
set_option maxRecDepth 20000 in
theorem cb_I_open : zCb m_I_open 4 := ⟨zU4 24 (by rfl) rfl, ini_I, pqn21, pqd5, by decide⟩
theorem in_I_open : Cond.instanceMethod m_I_open.1 ∈ zT := zU4 22 (by decide +kernel) rfl
theorem se_I_open : Cond.selects "Partlister$Lists" m_I_open.1 m_I_open.1 ∈ zT := zU4 23 (by decide +kernel) rfl
def m_I_openGap : zM := (⟨"Partlister$Lists", "openGap", "(III)V"⟩, prog_3_method_11_code, 7, (Option.none : Option Jvm.ClassFile.FieldType))
set_option maxRecDepth 20000 in
theorem cb_I_openGap : zCb m_I_openGap 3 := ⟨zU3 16 (by rfl) rfl, ini_I, pqn21, pqd20, by decide⟩
theorem in_I_openGap : Cond.instanceMethod m_I_openGap.1 ∈ zT := zU3 14 (by decide +kernel) rfl
theorem se_I_openGap : Cond.selects "Partlister$Lists" m_I_openGap.1 m_I_openGap.1 ∈ zT := zU3 15 (by decide +kernel) rfl
def m_I_placeInSpare : zM := (⟨"Partlister$Lists", "placeInSpare", "(I)I"⟩, prog_3_method_19_code, 2, (Option.some Jvm.ClassFile.FieldType.int))
set_option maxRecDepth 20000 in
theorem cb_I_placeInSpare : zCb m_I_placeInSpare 1 := ⟨zU1 169 (by rfl) rfl, ini_I, pqn21, pqd6, by decide⟩
theorem in_I_placeInSpare : Cond.instanceMethod m_I_placeInSpare.1 ∈ zT := zU1 168 (by decide +kernel) rfl
theorem se_I_placeInSpare : Cond.selects "Partlister$Lists" m_I_placeInSpare.1 m_I_placeInSpare.1 ∈ zT := zT_s (⟨"Partlister$Lists", "placeInSpare", "(I)I"⟩, 7) (by decide +kernel) rfl rfl
def m_I_placeOf : zM := (⟨"Partlister$Lists", "placeOf", "(II)I"⟩, prog_3_method_38_code, 5, (Option.some Jvm.ClassFile.FieldType.int))
set_option maxRecDepth 20000 in
theorem cb_I_placeOf : zCb m_I_placeOf 2 := ⟨zU2 83 (by rfl) rfl, ini_I, pqn21, pqd2, by decide⟩
theorem in_I_placeOf : Cond.instanceMethod m_I_placeOf.1 ∈ zT := zU2 81 (by decide +kernel) rfl
theorem se_I_placeOf : Cond.selects "Partlister$Lists" m_I_placeOf.1 m_I_placeOf.1 ∈ zT := zU2 82 (by decide +kernel) rfl
def m_I_rowOf : zM := (⟨"Partlister$Lists", "rowOf", "(I)I"⟩, prog_3_method_4_code, 2, (Option.some Jvm.ClassFile.FieldType.int))
set_option maxRecDepth 20000 in
theorem cb_I_rowOf : zCb m_I_rowOf 1 := ⟨zU2 55 (by rfl) rfl, ini_I, pqn21, pqd6, by decide⟩
theorem in_I_rowOf : Cond.instanceMethod m_I_rowOf.1 ∈ zT := zU2 53 (by decide +kernel) rfl
theorem se_I_rowOf : Cond.selects "Partlister$Lists" m_I_rowOf.1 m_I_rowOf.1 ∈ zT := zU2 54 (by decide +kernel) rfl
def m_I_shareNoKey : zM := (⟨"Partlister$Lists", "shareNoKey", "(II)Z"⟩, prog_3_method_36_code, 3, (Option.some Jvm.ClassFile.FieldType.boolean))
set_option maxRecDepth 20000 in
theorem cb_I_shareNoKey : zCb m_I_shareNoKey 2 := ⟨zU2 79 (by rfl) rfl, ini_I, pqn21, pqd4, by decide⟩
theorem in_I_shareNoKey : Cond.instanceMethod m_I_shareNoKey.1 ∈ zT := zU2 77 (by decide +kernel) rfl
theorem se_I_shareNoKey : Cond.selects "Partlister$Lists" m_I_shareNoKey.1 m_I_shareNoKey.1 ∈ zT := zU2 78 (by decide +kernel) rfl
def m_I_swap : zM := (⟨"Partlister$Lists", "swap", "(III)V"⟩, prog_3_method_9_code, 5, (Option.none : Option Jvm.ClassFile.FieldType))
set_option maxRecDepth 20000 in
theorem cb_I_swap : zCb m_I_swap 3 := ⟨zU3 225 (by rfl) rfl, ini_I, pqn21, pqd20, by decide⟩
theorem in_I_swap : Cond.instanceMethod m_I_swap.1 ∈ zT := zU3 223 (by decide +kernel) rfl
theorem se_I_swap : Cond.selects "Partlister$Lists" m_I_swap.1 m_I_swap.1 ∈ zT := zU3 224 (by decide +kernel) rfl
def m_I_sweepOut : zM := (⟨"Partlister$Lists", "sweepOut", "(II)I"⟩, prog_3_method_13_code, 11, (Option.some Jvm.ClassFile.FieldType.int))
set_option maxRecDepth 20000 in
theorem cb_I_sweepOut : zCb m_I_sweepOut 2 := ⟨zU3 141 (by rfl) rfl, ini_I, pqn21, pqd2, by decide⟩
theorem in_I_sweepOut : Cond.instanceMethod m_I_sweepOut.1 ∈ zT := zU3 139 (by decide +kernel) rfl
theorem se_I_sweepOut : Cond.selects "Partlister$Lists" m_I_sweepOut.1 m_I_sweepOut.1 ∈ zT := zU3 140 (by decide +kernel) rfl
def m_I_thingAt : zM := (⟨"Partlister$Lists", "thingAt", "(II)I"⟩, prog_3_method_5_code, 3, (Option.some Jvm.ClassFile.FieldType.int))
set_option maxRecDepth 20000 in
theorem cb_I_thingAt : zCb m_I_thingAt 2 := ⟨zU1 149 (by rfl) rfl, ini_I, pqn21, pqd2, by decide⟩
theorem in_I_thingAt : Cond.instanceMethod m_I_thingAt.1 ∈ zT := zU1 147 (by decide +kernel) rfl
theorem se_I_thingAt : Cond.selects "Partlister$Lists" m_I_thingAt.1 m_I_thingAt.1 ∈ zT := zU1 148 (by decide +kernel) rfl
def m_I_thingInSpare : zM := (⟨"Partlister$Lists", "thingInSpare", "(I)I"⟩, prog_3_method_18_code, 2, (Option.some Jvm.ClassFile.FieldType.int))
set_option maxRecDepth 20000 in
theorem cb_I_thingInSpare : zCb m_I_thingInSpare 1 := ⟨zU1 165 (by rfl) rfl, ini_I, pqn21, pqd6, by decide⟩
theorem in_I_thingInSpare : Cond.instanceMethod m_I_thingInSpare.1 ∈ zT := zU1 164 (by decide +kernel) rfl
theorem se_I_thingInSpare : Cond.selects "Partlister$Lists" m_I_thingInSpare.1 m_I_thingInSpare.1 ∈ zT := zT_s (⟨"Partlister$Lists", "thingInSpare", "(I)I"⟩, 7) (by decide +kernel) rfl rfl
def m_I_worthOf : zM := (⟨"Partlister$Lists", "worthOf", "(II)I"⟩, prog_3_method_29_code, 4, (Option.some Jvm.ClassFile.FieldType.int))
set_option maxRecDepth 20000 in
theorem cb_I_worthOf : zCb m_I_worthOf 2 := ⟨zU2 51 (by rfl) rfl, ini_I, pqn21, pqd2, by decide⟩
theorem in_I_worthOf : Cond.instanceMethod m_I_worthOf.1 ∈ zT := zU2 49 (by decide +kernel) rfl
theorem se_I_worthOf : Cond.selects "Partlister$Lists" m_I_worthOf.1 m_I_worthOf.1 ∈ zT := zU2 50 (by decide +kernel) rfl
def m_I_write : zM := (⟨"Partlister$Lists", "write", "(III)V"⟩, prog_3_method_7_code, 4, (Option.none : Option Jvm.ClassFile.FieldType))
set_option maxRecDepth 20000 in
theorem cb_I_write : zCb m_I_write 3 := ⟨zU3 20 (by rfl) rfl, ini_I, pqn21, pqd20, by decide⟩
theorem in_I_write : Cond.instanceMethod m_I_write.1 ∈ zT := zU3 18 (by decide +kernel) rfl
theorem se_I_write : Cond.selects "Partlister$Lists" m_I_write.1 m_I_write.1 ∈ zT := zU3 19 (by decide +kernel) rfl
def m_N_init : zM := (⟨"Partlister$Numbers", "<init>", "(I)V"⟩, prog_4_method_1_code, 2, (Option.none : Option Jvm.ClassFile.FieldType))
set_option maxRecDepth 20000 in
theorem cb_N_init : zCb m_N_init 1 := ⟨zU1 49 (by rfl) rfl, ini_N, pqn22, pqd17, by decide⟩
theorem in_N_init : Cond.instanceMethod m_N_init.1 ∈ zT := zU1 48 (by decide +kernel) rfl
def m_N_read : zM := (⟨"Partlister$Numbers", "read", "(I)I"⟩, prog_4_method_2_code, 2, (Option.some Jvm.ClassFile.FieldType.int))
set_option maxRecDepth 20000 in
theorem cb_N_read : zCb m_N_read 1 := ⟨zU1 137 (by rfl) rfl, ini_N, pqn22, pqd6, by decide⟩
theorem in_N_read : Cond.instanceMethod m_N_read.1 ∈ zT := zU1 135 (by decide +kernel) rfl
theorem se_N_read : Cond.selects "Partlister$Numbers" m_N_read.1 m_N_read.1 ∈ zT := zU1 136 (by decide +kernel) rfl
def m_N_write : zM := (⟨"Partlister$Numbers", "write", "(II)V"⟩, prog_4_method_3_code, 3, (Option.none : Option Jvm.ClassFile.FieldType))
set_option maxRecDepth 20000 in
theorem cb_N_write : zCb m_N_write 2 := ⟨zU1 59 (by rfl) rfl, ini_N, pqn22, pqd9, by decide⟩
theorem in_N_write : Cond.instanceMethod m_N_write.1 ∈ zT := zU1 57 (by decide +kernel) rfl
theorem se_N_write : Cond.selects "Partlister$Numbers" m_N_write.1 m_N_write.1 ∈ zT := zU1 58 (by decide +kernel) rfl
def m_O_init : zM := (⟨"PartlisterLaw$Out", "<init>", "()V"⟩, prog_6_method_1_code, 1, (Option.none : Option Jvm.ClassFile.FieldType))
set_option maxRecDepth 20000 in
theorem cb_O_init : zCb m_O_init 0 := ⟨zU2 110 (by rfl) rfl, ini_O, pqn23, pqd1, by decide⟩
theorem in_O_init : Cond.instanceMethod m_O_init.1 ∈ zT := zU2 109 (by decide +kernel) rfl
def m_M_init : zM := (⟨"PartlisterModel", "<init>", "()V"⟩, prog_7_method_3_code, 2, (Option.none : Option Jvm.ClassFile.FieldType))
set_option maxRecDepth 20000 in
theorem cb_M_init : zCb m_M_init 0 := ⟨zU6 43 (by rfl) rfl, ini_M, pqn24, pqd1, by decide⟩
theorem in_M_init : Cond.instanceMethod m_M_init.1 ∈ zT := zU6 42 (by decide +kernel) rfl
def m_M_add1 : zM := (⟨"PartlisterModel", "add", "(II)I"⟩, prog_7_method_24_code, 3, (Option.some Jvm.ClassFile.FieldType.int))
set_option maxRecDepth 20000 in
theorem cb_M_add1 : zCb m_M_add1 2 := ⟨zU6 156 (by rfl) rfl, ini_M, pqn24, pqd2, by decide⟩
theorem in_M_add1 : Cond.instanceMethod m_M_add1.1 ∈ zT := zU6 154 (by decide +kernel) rfl
theorem se_M_add1 : Cond.selects "PartlisterModel" m_M_add1.1 m_M_add1.1 ∈ zT := zU6 155 (by decide +kernel) rfl
def m_M_add2 : zM := (⟨"PartlisterModel", "add", "(JJ)J"⟩, prog_7_method_103_code, 4, (Option.some Jvm.ClassFile.FieldType.long))
set_option maxRecDepth 20000 in
theorem cb_M_add2 : zCb m_M_add2 2 := ⟨zU8 172 (by rfl) rfl, ini_M, pqn24, pqd14, by decide⟩
theorem st_M_add2 : Cond.static m_M_add2.1 ∈ zT := zU8 171 (by decide +kernel) rfl
def m_M_addAll : zM := (⟨"PartlisterModel", "addAll", "(III)I"⟩, prog_7_method_28_code, 4, (Option.some Jvm.ClassFile.FieldType.int))
set_option maxRecDepth 20000 in
theorem cb_M_addAll : zCb m_M_addAll 3 := ⟨zU7 25 (by rfl) rfl, ini_M, pqn24, pqd3, by decide⟩
theorem in_M_addAll : Cond.instanceMethod m_M_addAll.1 ∈ zT := zU7 23 (by decide +kernel) rfl
theorem se_M_addAll : Cond.selects "PartlisterModel" m_M_addAll.1 m_M_addAll.1 ∈ zT := zU7 24 (by decide +kernel) rfl
def m_M_addAt : zM := (⟨"PartlisterModel", "addAt", "(III)I"⟩, prog_7_method_25_code, 4, (Option.some Jvm.ClassFile.FieldType.int))
set_option maxRecDepth 20000 in
theorem cb_M_addAt : zCb m_M_addAt 3 := ⟨zU7 21 (by rfl) rfl, ini_M, pqn24, pqd3, by decide⟩
theorem in_M_addAt : Cond.instanceMethod m_M_addAt.1 ∈ zT := zU7 19 (by decide +kernel) rfl
theorem se_M_addAt : Cond.selects "PartlisterModel" m_M_addAt.1 m_M_addAt.1 ∈ zT := zU7 20 (by decide +kernel) rfl
def m_M_ahead : zM := (⟨"PartlisterModel", "ahead", "([I[II)I"⟩, prog_7_method_48_code, 3, (Option.some Jvm.ClassFile.FieldType.int))
set_option maxRecDepth 20000 in
theorem cb_M_ahead : zCb m_M_ahead 3 := ⟨zU7 141 (by rfl) rfl, ini_M, pqn24, pqd25, by decide⟩
theorem st_M_ahead : Cond.static m_M_ahead.1 ∈ zT := zU7 140 (by decide +kernel) rfl
def m_M_append : zM := (⟨"PartlisterModel", "append", "(II)I"⟩, prog_7_method_29_code, 3, (Option.some Jvm.ClassFile.FieldType.int))
set_option maxRecDepth 20000 in
theorem cb_M_append : zCb m_M_append 2 := ⟨zU7 42 (by rfl) rfl, ini_M, pqn24, pqd2, by decide⟩
theorem in_M_append : Cond.instanceMethod m_M_append.1 ∈ zT := zU7 40 (by decide +kernel) rfl
theorem se_M_append : Cond.selects "PartlisterModel" m_M_append.1 m_M_append.1 ∈ zT := zU7 41 (by decide +kernel) rfl
def m_M_areApart : zM := (⟨"PartlisterModel", "areApart", "(II)Z"⟩, prog_7_method_83_code, 3, (Option.some Jvm.ClassFile.FieldType.boolean))
set_option maxRecDepth 20000 in
theorem cb_M_areApart : zCb m_M_areApart 2 := ⟨zU8 63 (by rfl) rfl, ini_M, pqn24, pqd4, by decide⟩
theorem in_M_areApart : Cond.instanceMethod m_M_areApart.1 ∈ zT := zU8 61 (by decide +kernel) rfl
theorem se_M_areApart : Cond.selects "PartlisterModel" m_M_areApart.1 m_M_areApart.1 ∈ zT := zU8 62 (by decide +kernel) rfl
def m_M_areNone : zM := (⟨"PartlisterModel", "areNone", "(II)Z"⟩, prog_7_method_76_code, 3, (Option.some Jvm.ClassFile.FieldType.boolean))
set_option maxRecDepth 20000 in
theorem cb_M_areNone : zCb m_M_areNone 2 := ⟨zU8 55 (by rfl) rfl, ini_M, pqn24, pqd4, by decide⟩
theorem in_M_areNone : Cond.instanceMethod m_M_areNone.1 ∈ zT := zU8 54 (by decide +kernel) rfl
theorem se_M_areNone : Cond.selects "PartlisterModel" m_M_areNone.1 m_M_areNone.1 ∈ zT := zT_s (⟨"PartlisterModel", "areNone", "(II)Z"⟩, 9) (by decide +kernel) rfl rfl
def m_M_areOne : zM := (⟨"PartlisterModel", "areOne", "(II)Z"⟩, prog_7_method_40_code, 3, (Option.some Jvm.ClassFile.FieldType.boolean))
set_option maxRecDepth 20000 in
theorem cb_M_areOne : zCb m_M_areOne 2 := ⟨zU7 94 (by rfl) rfl, ini_M, pqn24, pqd4, by decide⟩
theorem in_M_areOne : Cond.instanceMethod m_M_areOne.1 ∈ zT := zU7 93 (by decide +kernel) rfl
theorem se_M_areOne : Cond.selects "PartlisterModel" m_M_areOne.1 m_M_areOne.1 ∈ zT := zT_s (⟨"PartlisterModel", "areOne", "(II)Z"⟩, 9) (by decide +kernel) rfl rfl
def m_M_assign : zM := (⟨"PartlisterModel", "assign", "(II)I"⟩, prog_7_method_46_code, 5, (Option.some Jvm.ClassFile.FieldType.int))
set_option maxRecDepth 20000 in
theorem cb_M_assign : zCb m_M_assign 2 := ⟨zU7 127 (by rfl) rfl, ini_M, pqn24, pqd2, by decide⟩
theorem in_M_assign : Cond.instanceMethod m_M_assign.1 ∈ zT := zU7 125 (by decide +kernel) rfl
theorem se_M_assign : Cond.selects "PartlisterModel" m_M_assign.1 m_M_assign.1 ∈ zT := zU7 126 (by decide +kernel) rfl
def m_M_at : zM := (⟨"PartlisterModel", "at", "(II)[I"⟩, prog_7_method_13_code, 3, (Option.some (Jvm.ClassFile.FieldType.array Jvm.ClassFile.FieldType.int)))
set_option maxRecDepth 20000 in
theorem cb_M_at : zCb m_M_at 2 := ⟨zU7 37 (by rfl) rfl, ini_M, pqn24, pqd26, by decide⟩
theorem in_M_at : Cond.instanceMethod m_M_at.1 ∈ zT := zU7 36 (by decide +kernel) rfl
theorem se_M_at : Cond.selects "PartlisterModel" m_M_at.1 m_M_at.1 ∈ zT := zT_s (⟨"PartlisterModel", "at", "(II)[I"⟩, 9) (by decide +kernel) rfl rfl
def m_M_base : zM := (⟨"PartlisterModel", "base", "(I)I"⟩, prog_7_method_10_code, 2, (Option.some Jvm.ClassFile.FieldType.int))
set_option maxRecDepth 20000 in
theorem cb_M_base : zCb m_M_base 1 := ⟨zU6 215 (by rfl) rfl, ini_M, pqn24, pqd6, by decide⟩
theorem in_M_base : Cond.instanceMethod m_M_base.1 ∈ zT := zU6 214 (by decide +kernel) rfl
theorem se_M_base : Cond.selects "PartlisterModel" m_M_base.1 m_M_base.1 ∈ zT := zT_s (⟨"PartlisterModel", "base", "(I)I"⟩, 9) (by decide +kernel) rfl rfl
def m_M_bring : zM := (⟨"PartlisterModel", "bring", "(III)I"⟩, prog_7_method_27_code, 6, (Option.some Jvm.ClassFile.FieldType.int))
set_option maxRecDepth 20000 in
theorem cb_M_bring : zCb m_M_bring 3 := ⟨zU7 29 (by rfl) rfl, ini_M, pqn24, pqd3, by decide⟩
theorem in_M_bring : Cond.instanceMethod m_M_bring.1 ∈ zT := zU7 28 (by decide +kernel) rfl
theorem se_M_bring : Cond.selects "PartlisterModel" m_M_bring.1 m_M_bring.1 ∈ zT := zT_s (⟨"PartlisterModel", "bring", "(III)I"⟩, 9) (by decide +kernel) rfl rfl
def m_M_change : zM := (⟨"PartlisterModel", "change", "(III)V"⟩, prog_7_method_22_code, 6, (Option.none : Option Jvm.ClassFile.FieldType))
set_option maxRecDepth 20000 in
theorem cb_M_change : zCb m_M_change 3 := ⟨zU7 1 (by rfl) rfl, ini_M, pqn24, pqd20, by decide⟩
theorem in_M_change : Cond.instanceMethod m_M_change.1 ∈ zT := zU7 0 (by decide +kernel) rfl
theorem se_M_change : Cond.selects "PartlisterModel" m_M_change.1 m_M_change.1 ∈ zT := zT_s (⟨"PartlisterModel", "change", "(III)V"⟩, 9) (by decide +kernel) rfl rfl
def m_M_clear : zM := (⟨"PartlisterModel", "clear", "(I)I"⟩, prog_7_method_44_code, 4, (Option.some Jvm.ClassFile.FieldType.int))
set_option maxRecDepth 20000 in
theorem cb_M_clear : zCb m_M_clear 1 := ⟨zU7 115 (by rfl) rfl, ini_M, pqn24, pqd6, by decide⟩
theorem in_M_clear : Cond.instanceMethod m_M_clear.1 ∈ zT := zU7 113 (by decide +kernel) rfl
theorem se_M_clear : Cond.selects "PartlisterModel" m_M_clear.1 m_M_clear.1 ∈ zT := zU7 114 (by decide +kernel) rfl
def m_M_close : zM := (⟨"PartlisterModel", "close", "(I)I"⟩, prog_7_method_56_code, 2, (Option.some Jvm.ClassFile.FieldType.int))
set_option maxRecDepth 20000 in
theorem cb_M_close : zCb m_M_close 1 := ⟨zU7 184 (by rfl) rfl, ini_M, pqn24, pqd6, by decide⟩
theorem in_M_close : Cond.instanceMethod m_M_close.1 ∈ zT := zU7 182 (by decide +kernel) rfl
theorem se_M_close : Cond.selects "PartlisterModel" m_M_close.1 m_M_close.1 ∈ zT := zU7 183 (by decide +kernel) rfl
def m_M_come : zM := (⟨"PartlisterModel", "come", "(II[I)V"⟩, prog_7_method_23_code, 4, (Option.none : Option Jvm.ClassFile.FieldType))
set_option maxRecDepth 20000 in
theorem cb_M_come : zCb m_M_come 3 := ⟨zU6 211 (by rfl) rfl, ini_M, pqn24, pqd27, by decide⟩
theorem in_M_come : Cond.instanceMethod m_M_come.1 ∈ zT := zU6 210 (by decide +kernel) rfl
theorem se_M_come : Cond.selects "PartlisterModel" m_M_come.1 m_M_come.1 ∈ zT := zT_s (⟨"PartlisterModel", "come", "(II[I)V"⟩, 9) (by decide +kernel) rfl rfl
def m_M_copy : zM := (⟨"PartlisterModel", "copy", "(I)Ljava/util/ArrayList;"⟩, prog_7_method_26_code, 4, (Option.some (Jvm.ClassFile.FieldType.object "java/util/ArrayList")))
set_option maxRecDepth 20000 in
theorem cb_M_copy : zCb m_M_copy 1 := ⟨zU7 33 (by rfl) rfl, ini_M, pqn24, pqd28, by decide⟩
theorem in_M_copy : Cond.instanceMethod m_M_copy.1 ∈ zT := zU7 32 (by decide +kernel) rfl
theorem se_M_copy : Cond.selects "PartlisterModel" m_M_copy.1 m_M_copy.1 ∈ zT := zT_s (⟨"PartlisterModel", "copy", "(I)Ljava/util/ArrayList;"⟩, 9) (by decide +kernel) rfl rfl
def m_M_cursor : zM := (⟨"PartlisterModel", "cursor", "(II)I"⟩, prog_7_method_59_code, 4, (Option.some Jvm.ClassFile.FieldType.int))
set_option maxRecDepth 20000 in
theorem cb_M_cursor : zCb m_M_cursor 2 := ⟨zU7 192 (by rfl) rfl, ini_M, pqn24, pqd2, by decide⟩
theorem in_M_cursor : Cond.instanceMethod m_M_cursor.1 ∈ zT := zU7 190 (by decide +kernel) rfl
theorem se_M_cursor : Cond.selects "PartlisterModel" m_M_cursor.1 m_M_cursor.1 ∈ zT := zU7 191 (by decide +kernel) rfl
def m_M_cursorTold : zM := (⟨"PartlisterModel", "cursorTold", "(II)I"⟩, prog_7_method_96_code, 5, (Option.some Jvm.ClassFile.FieldType.int))
set_option maxRecDepth 20000 in
theorem cb_M_cursorTold : zCb m_M_cursorTold 2 := ⟨zU8 144 (by rfl) rfl, ini_M, pqn24, pqd2, by decide⟩
theorem in_M_cursorTold : Cond.instanceMethod m_M_cursorTold.1 ∈ zT := zU8 143 (by decide +kernel) rfl
theorem se_M_cursorTold : Cond.selects "PartlisterModel" m_M_cursorTold.1 m_M_cursorTold.1 ∈ zT := zT_s (⟨"PartlisterModel", "cursorTold", "(II)I"⟩, 9) (by decide +kernel) rfl rfl
def m_M_digest : zM := (⟨"PartlisterModel", "digest", "()J"⟩, prog_7_method_104_code, 5, (Option.some Jvm.ClassFile.FieldType.long))
set_option maxRecDepth 20000 in
theorem cb_M_digest : zCb m_M_digest 0 := ⟨zU8 168 (by rfl) rfl, ini_M, pqn24, pqd7, by decide⟩
theorem in_M_digest : Cond.instanceMethod m_M_digest.1 ∈ zT := zU8 166 (by decide +kernel) rfl
theorem se_M_digest : Cond.selects "PartlisterModel" m_M_digest.1 m_M_digest.1 ∈ zT := zU8 167 (by decide +kernel) rfl
def m_M_drop : zM := (⟨"PartlisterModel", "drop", "(I)I"⟩, prog_7_method_64_code, 3, (Option.some Jvm.ClassFile.FieldType.int))
set_option maxRecDepth 20000 in
theorem cb_M_drop : zCb m_M_drop 1 := ⟨zU7 239 (by rfl) rfl, ini_M, pqn24, pqd6, by decide⟩
theorem in_M_drop : Cond.instanceMethod m_M_drop.1 ∈ zT := zU7 237 (by decide +kernel) rfl
theorem se_M_drop : Cond.selects "PartlisterModel" m_M_drop.1 m_M_drop.1 ∈ zT := zU7 238 (by decide +kernel) rfl
def m_M_end : zM := (⟨"PartlisterModel", "end", "(I)Z"⟩, prog_7_method_67_code, 3, (Option.some Jvm.ClassFile.FieldType.boolean))
set_option maxRecDepth 20000 in
theorem cb_M_end : zCb m_M_end 1 := ⟨zU8 11 (by rfl) rfl, ini_M, pqn24, pqd8, by decide⟩
theorem in_M_end : Cond.instanceMethod m_M_end.1 ∈ zT := zU8 9 (by decide +kernel) rfl
theorem se_M_end : Cond.selects "PartlisterModel" m_M_end.1 m_M_end.1 ∈ zT := zU8 10 (by decide +kernel) rfl
def m_M_endCursor : zM := (⟨"PartlisterModel", "endCursor", "(I)V"⟩, prog_7_method_18_code, 2, (Option.none : Option Jvm.ClassFile.FieldType))
set_option maxRecDepth 20000 in
theorem cb_M_endCursor : zCb m_M_endCursor 1 := ⟨zU7 5 (by rfl) rfl, ini_M, pqn24, pqd17, by decide⟩
theorem in_M_endCursor : Cond.instanceMethod m_M_endCursor.1 ∈ zT := zU7 4 (by decide +kernel) rfl
theorem se_M_endCursor : Cond.selects "PartlisterModel" m_M_endCursor.1 m_M_endCursor.1 ∈ zT := zT_s (⟨"PartlisterModel", "endCursor", "(I)V"⟩, 9) (by decide +kernel) rfl rfl
def m_M_endCursors : zM := (⟨"PartlisterModel", "endCursors", "(I)V"⟩, prog_7_method_21_code, 3, (Option.none : Option Jvm.ClassFile.FieldType))
set_option maxRecDepth 20000 in
theorem cb_M_endCursors : zCb m_M_endCursors 1 := ⟨zU7 123 (by rfl) rfl, ini_M, pqn24, pqd17, by decide⟩
theorem in_M_endCursors : Cond.instanceMethod m_M_endCursors.1 ∈ zT := zU7 122 (by decide +kernel) rfl
theorem se_M_endCursors : Cond.selects "PartlisterModel" m_M_endCursors.1 m_M_endCursors.1 ∈ zT := zT_s (⟨"PartlisterModel", "endCursors", "(I)V"⟩, 9) (by decide +kernel) rfl rfl
def m_M_endPart : zM := (⟨"PartlisterModel", "endPart", "(I)I"⟩, prog_7_method_19_code, 4, (Option.some Jvm.ClassFile.FieldType.int))
set_option maxRecDepth 20000 in
theorem cb_M_endPart : zCb m_M_endPart 1 := ⟨zU7 17 (by rfl) rfl, ini_M, pqn24, pqd6, by decide⟩
theorem in_M_endPart : Cond.instanceMethod m_M_endPart.1 ∈ zT := zU7 16 (by decide +kernel) rfl
theorem se_M_endPart : Cond.selects "PartlisterModel" m_M_endPart.1 m_M_endPart.1 ∈ zT := zT_s (⟨"PartlisterModel", "endPart", "(I)I"⟩, 9) (by decide +kernel) rfl rfl
def m_M_endParts : zM := (⟨"PartlisterModel", "endParts", "(II)I"⟩, prog_7_method_20_code, 5, (Option.some Jvm.ClassFile.FieldType.int))
set_option maxRecDepth 20000 in
theorem cb_M_endParts : zCb m_M_endParts 2 := ⟨zU7 9 (by rfl) rfl, ini_M, pqn24, pqd2, by decide⟩
theorem in_M_endParts : Cond.instanceMethod m_M_endParts.1 ∈ zT := zU7 8 (by decide +kernel) rfl
theorem se_M_endParts : Cond.selects "PartlisterModel" m_M_endParts.1 m_M_endParts.1 ∈ zT := zT_s (⟨"PartlisterModel", "endParts", "(II)I"⟩, 9) (by decide +kernel) rfl rfl
def m_M_exchange : zM := (⟨"PartlisterModel", "exchange", "(III)Z"⟩, prog_7_method_53_code, 5, (Option.some Jvm.ClassFile.FieldType.boolean))
set_option maxRecDepth 20000 in
theorem cb_M_exchange : zCb m_M_exchange 3 := ⟨zU7 157 (by rfl) rfl, ini_M, pqn24, pqd10, by decide⟩
theorem in_M_exchange : Cond.instanceMethod m_M_exchange.1 ∈ zT := zU7 155 (by decide +kernel) rfl
theorem se_M_exchange : Cond.selects "PartlisterModel" m_M_exchange.1 m_M_exchange.1 ∈ zT := zU7 156 (by decide +kernel) rfl
def m_M_extreme : zM := (⟨"PartlisterModel", "extreme", "(IZ)I"⟩, prog_7_method_89_code, 3, (Option.some Jvm.ClassFile.FieldType.int))
set_option maxRecDepth 20000 in
theorem cb_M_extreme : zCb m_M_extreme 2 := ⟨zU8 99 (by rfl) rfl, ini_M, pqn24, pqd11, by decide⟩
theorem in_M_extreme : Cond.instanceMethod m_M_extreme.1 ∈ zT := zU8 97 (by decide +kernel) rfl
theorem se_M_extreme : Cond.selects "PartlisterModel" m_M_extreme.1 m_M_extreme.1 ∈ zT := zU8 98 (by decide +kernel) rfl
def m_M_extremeOf : zM := (⟨"PartlisterModel", "extremeOf", "(IZ)I"⟩, prog_7_method_88_code, 6, (Option.some Jvm.ClassFile.FieldType.int))
set_option maxRecDepth 20000 in
theorem cb_M_extremeOf : zCb m_M_extremeOf 2 := ⟨zU8 103 (by rfl) rfl, ini_M, pqn24, pqd11, by decide⟩
theorem in_M_extremeOf : Cond.instanceMethod m_M_extremeOf.1 ∈ zT := zU8 102 (by decide +kernel) rfl
theorem se_M_extremeOf : Cond.selects "PartlisterModel" m_M_extremeOf.1 m_M_extremeOf.1 ∈ zT := zT_s (⟨"PartlisterModel", "extremeOf", "(IZ)I"⟩, 9) (by decide +kernel) rfl rfl
def m_M_fault : zM := (⟨"PartlisterModel", "fault", "(I)I"⟩, prog_7_method_60_code, 2, (Option.some Jvm.ClassFile.FieldType.int))
set_option maxRecDepth 20000 in
theorem cb_M_fault : zCb m_M_fault 1 := ⟨zU7 227 (by rfl) rfl, ini_M, pqn24, pqd6, by decide⟩
theorem in_M_fault : Cond.instanceMethod m_M_fault.1 ∈ zT := zU7 226 (by decide +kernel) rfl
theorem se_M_fault : Cond.selects "PartlisterModel" m_M_fault.1 m_M_fault.1 ∈ zT := zT_s (⟨"PartlisterModel", "fault", "(I)I"⟩, 9) (by decide +kernel) rfl rfl
def m_M_find : zM := (⟨"PartlisterModel", "find", "(II)I"⟩, prog_7_method_85_code, 3, (Option.some Jvm.ClassFile.FieldType.int))
set_option maxRecDepth 20000 in
theorem cb_M_find : zCb m_M_find 2 := ⟨zU8 83 (by rfl) rfl, ini_M, pqn24, pqd2, by decide⟩
theorem in_M_find : Cond.instanceMethod m_M_find.1 ∈ zT := zU8 81 (by decide +kernel) rfl
theorem se_M_find : Cond.selects "PartlisterModel" m_M_find.1 m_M_find.1 ∈ zT := zU8 82 (by decide +kernel) rfl
def m_M_first : zM := (⟨"PartlisterModel", "first", "(II)I"⟩, prog_7_method_72_code, 3, (Option.some Jvm.ClassFile.FieldType.int))
set_option maxRecDepth 20000 in
theorem cb_M_first : zCb m_M_first 2 := ⟨zU8 31 (by rfl) rfl, ini_M, pqn24, pqd2, by decide⟩
theorem in_M_first : Cond.instanceMethod m_M_first.1 ∈ zT := zU8 29 (by decide +kernel) rfl
theorem se_M_first : Cond.selects "PartlisterModel" m_M_first.1 m_M_first.1 ∈ zT := zU8 30 (by decide +kernel) rfl
def m_M_firstOf : zM := (⟨"PartlisterModel", "firstOf", "(II)I"⟩, prog_7_method_34_code, 4, (Option.some Jvm.ClassFile.FieldType.int))
set_option maxRecDepth 20000 in
theorem cb_M_firstOf : zCb m_M_firstOf 2 := ⟨zU7 86 (by rfl) rfl, ini_M, pqn24, pqd2, by decide⟩
theorem in_M_firstOf : Cond.instanceMethod m_M_firstOf.1 ∈ zT := zU7 85 (by decide +kernel) rfl
theorem se_M_firstOf : Cond.selects "PartlisterModel" m_M_firstOf.1 m_M_firstOf.1 ∈ zT := zT_s (⟨"PartlisterModel", "firstOf", "(II)I"⟩, 9) (by decide +kernel) rfl rfl
def m_M_found : zM := (⟨"PartlisterModel", "found", "(II)I"⟩, prog_7_method_81_code, 4, (Option.some Jvm.ClassFile.FieldType.int))
set_option maxRecDepth 20000 in
theorem cb_M_found : zCb m_M_found 2 := ⟨zU8 87 (by rfl) rfl, ini_M, pqn24, pqd2, by decide⟩
theorem in_M_found : Cond.instanceMethod m_M_found.1 ∈ zT := zU8 86 (by decide +kernel) rfl
theorem se_M_found : Cond.selects "PartlisterModel" m_M_found.1 m_M_found.1 ∈ zT := zT_s (⟨"PartlisterModel", "found", "(II)I"⟩, 9) (by decide +kernel) rfl rfl
def m_M_freeCursor : zM := (⟨"PartlisterModel", "freeCursor", "()I"⟩, prog_7_method_58_code, 2, (Option.some Jvm.ClassFile.FieldType.int))
set_option maxRecDepth 20000 in
theorem cb_M_freeCursor : zCb m_M_freeCursor 0 := ⟨zU7 196 (by rfl) rfl, ini_M, pqn24, pqd13, by decide⟩
theorem in_M_freeCursor : Cond.instanceMethod m_M_freeCursor.1 ∈ zT := zU7 195 (by decide +kernel) rfl
theorem se_M_freeCursor : Cond.selects "PartlisterModel" m_M_freeCursor.1 m_M_freeCursor.1 ∈ zT := zT_s (⟨"PartlisterModel", "freeCursor", "()I"⟩, 9) (by decide +kernel) rfl rfl
def m_M_freePart : zM := (⟨"PartlisterModel", "freePart", "()I"⟩, prog_7_method_54_code, 2, (Option.some Jvm.ClassFile.FieldType.int))
set_option maxRecDepth 20000 in
theorem cb_M_freePart : zCb m_M_freePart 0 := ⟨zU7 165 (by rfl) rfl, ini_M, pqn24, pqd13, by decide⟩
theorem in_M_freePart : Cond.instanceMethod m_M_freePart.1 ∈ zT := zU7 164 (by decide +kernel) rfl
theorem se_M_freePart : Cond.selects "PartlisterModel" m_M_freePart.1 m_M_freePart.1 ∈ zT := zT_s (⟨"PartlisterModel", "freePart", "()I"⟩, 9) (by decide +kernel) rfl rfl
def m_M_hasAll : zM := (⟨"PartlisterModel", "hasAll", "(II)Z"⟩, prog_7_method_82_code, 3, (Option.some Jvm.ClassFile.FieldType.boolean))
set_option maxRecDepth 20000 in
theorem cb_M_hasAll : zCb m_M_hasAll 2 := ⟨zU8 51 (by rfl) rfl, ini_M, pqn24, pqd4, by decide⟩
theorem in_M_hasAll : Cond.instanceMethod m_M_hasAll.1 ∈ zT := zU8 49 (by decide +kernel) rfl
theorem se_M_hasAll : Cond.selects "PartlisterModel" m_M_hasAll.1 m_M_hasAll.1 ∈ zT := zU8 50 (by decide +kernel) rfl
def m_M_hasEach : zM := (⟨"PartlisterModel", "hasEach", "(II)Z"⟩, prog_7_method_77_code, 4, (Option.some Jvm.ClassFile.FieldType.boolean))
set_option maxRecDepth 20000 in
theorem cb_M_hasEach : zCb m_M_hasEach 2 := ⟨zU8 59 (by rfl) rfl, ini_M, pqn24, pqd4, by decide⟩
theorem in_M_hasEach : Cond.instanceMethod m_M_hasEach.1 ∈ zT := zU8 58 (by decide +kernel) rfl
theorem se_M_hasEach : Cond.selects "PartlisterModel" m_M_hasEach.1 m_M_hasEach.1 ∈ zT := zT_s (⟨"PartlisterModel", "hasEach", "(II)Z"⟩, 9) (by decide +kernel) rfl rfl
def m_M_hasNoneOf : zM := (⟨"PartlisterModel", "hasNoneOf", "(II)Z"⟩, prog_7_method_78_code, 4, (Option.some Jvm.ClassFile.FieldType.boolean))
set_option maxRecDepth 20000 in
theorem cb_M_hasNoneOf : zCb m_M_hasNoneOf 2 := ⟨zU8 67 (by rfl) rfl, ini_M, pqn24, pqd4, by decide⟩
theorem in_M_hasNoneOf : Cond.instanceMethod m_M_hasNoneOf.1 ∈ zT := zU8 66 (by decide +kernel) rfl
theorem se_M_hasNoneOf : Cond.selects "PartlisterModel" m_M_hasNoneOf.1 m_M_hasNoneOf.1 ∈ zT := zT_s (⟨"PartlisterModel", "hasNoneOf", "(II)Z"⟩, 9) (by decide +kernel) rfl rfl
def m_M_hash : zM := (⟨"PartlisterModel", "hash", "(I)I"⟩, prog_7_method_91_code, 2, (Option.some Jvm.ClassFile.FieldType.int))
set_option maxRecDepth 20000 in
theorem cb_M_hash : zCb m_M_hash 1 := ⟨zU8 107 (by rfl) rfl, ini_M, pqn24, pqd6, by decide⟩
theorem in_M_hash : Cond.instanceMethod m_M_hash.1 ∈ zT := zU8 105 (by decide +kernel) rfl
theorem se_M_hash : Cond.selects "PartlisterModel" m_M_hash.1 m_M_hash.1 ∈ zT := zU8 106 (by decide +kernel) rfl
def m_M_hashOf : zM := (⟨"PartlisterModel", "hashOf", "(I)I"⟩, prog_7_method_90_code, 4, (Option.some Jvm.ClassFile.FieldType.int))
set_option maxRecDepth 20000 in
theorem cb_M_hashOf : zCb m_M_hashOf 1 := ⟨zU8 111 (by rfl) rfl, ini_M, pqn24, pqd6, by decide⟩
theorem in_M_hashOf : Cond.instanceMethod m_M_hashOf.1 ∈ zT := zU8 110 (by decide +kernel) rfl
theorem se_M_hashOf : Cond.selects "PartlisterModel" m_M_hashOf.1 m_M_hashOf.1 ∈ zT := zT_s (⟨"PartlisterModel", "hashOf", "(I)I"⟩, 9) (by decide +kernel) rfl rfl
def m_M_house : zM := (⟨"PartlisterModel", "house", "(I)I"⟩, prog_7_method_99_code, 2, (Option.some Jvm.ClassFile.FieldType.int))
set_option maxRecDepth 20000 in
theorem cb_M_house : zCb m_M_house 1 := ⟨zU8 148 (by rfl) rfl, ini_M, pqn24, pqd6, by decide⟩
theorem in_M_house : Cond.instanceMethod m_M_house.1 ∈ zT := zU8 146 (by decide +kernel) rfl
theorem se_M_house : Cond.selects "PartlisterModel" m_M_house.1 m_M_house.1 ∈ zT := zU8 147 (by decide +kernel) rfl
def m_M_houseTold : zM := (⟨"PartlisterModel", "houseTold", "(I)I"⟩, prog_7_method_98_code, 7, (Option.some Jvm.ClassFile.FieldType.int))
set_option maxRecDepth 20000 in
theorem cb_M_houseTold : zCb m_M_houseTold 1 := ⟨zU8 152 (by rfl) rfl, ini_M, pqn24, pqd6, by decide⟩
theorem in_M_houseTold : Cond.instanceMethod m_M_houseTold.1 ∈ zT := zU8 151 (by decide +kernel) rfl
theorem se_M_houseTold : Cond.selects "PartlisterModel" m_M_houseTold.1 m_M_houseTold.1 ∈ zT := zT_s (⟨"PartlisterModel", "houseTold", "(I)I"⟩, 9) (by decide +kernel) rfl rfl
def m_M_insert : zM := (⟨"PartlisterModel", "insert", "(II)I"⟩, prog_7_method_65_code, 4, (Option.some Jvm.ClassFile.FieldType.int))
set_option maxRecDepth 20000 in
theorem cb_M_insert : zCb m_M_insert 2 := ⟨zU8 3 (by rfl) rfl, ini_M, pqn24, pqd2, by decide⟩
theorem in_M_insert : Cond.instanceMethod m_M_insert.1 ∈ zT := zU8 1 (by decide +kernel) rfl
theorem se_M_insert : Cond.selects "PartlisterModel" m_M_insert.1 m_M_insert.1 ∈ zT := zU8 2 (by decide +kernel) rfl
def m_M_isAbove : zM := (⟨"PartlisterModel", "isAbove", "(II)Z"⟩, prog_7_method_17_code, 3, (Option.some Jvm.ClassFile.FieldType.boolean))
set_option maxRecDepth 20000 in
theorem cb_M_isAbove : zCb m_M_isAbove 2 := ⟨zU7 13 (by rfl) rfl, ini_M, pqn24, pqd4, by decide⟩
theorem in_M_isAbove : Cond.instanceMethod m_M_isAbove.1 ∈ zT := zU7 12 (by decide +kernel) rfl
theorem se_M_isAbove : Cond.selects "PartlisterModel" m_M_isAbove.1 m_M_isAbove.1 ∈ zT := zT_s (⟨"PartlisterModel", "isAbove", "(II)Z"⟩, 9) (by decide +kernel) rfl rfl
def m_M_isFull : zM := (⟨"PartlisterModel", "isFull", "(II)Z"⟩, prog_7_method_15_code, 3, (Option.some Jvm.ClassFile.FieldType.boolean))
set_option maxRecDepth 20000 in
theorem cb_M_isFull : zCb m_M_isFull 2 := ⟨zU6 175 (by rfl) rfl, ini_M, pqn24, pqd4, by decide⟩
theorem in_M_isFull : Cond.instanceMethod m_M_isFull.1 ∈ zT := zU6 174 (by decide +kernel) rfl
theorem se_M_isFull : Cond.selects "PartlisterModel" m_M_isFull.1 m_M_isFull.1 ∈ zT := zT_s (⟨"PartlisterModel", "isFull", "(II)Z"⟩, 9) (by decide +kernel) rfl rfl
def m_M_isIn : zM := (⟨"PartlisterModel", "isIn", "(III)Z"⟩, prog_7_method_1_code, 3, (Option.some Jvm.ClassFile.FieldType.boolean))
set_option maxRecDepth 20000 in
theorem cb_M_isIn : zCb m_M_isIn 3 := ⟨zU6 163 (by rfl) rfl, ini_M, pqn24, pqd10, by decide⟩
theorem st_M_isIn : Cond.static m_M_isIn.1 ∈ zT := zU6 162 (by decide +kernel) rfl
def m_M_isNoCursor : zM := (⟨"PartlisterModel", "isNoCursor", "(I)Z"⟩, prog_7_method_57_code, 2, (Option.some Jvm.ClassFile.FieldType.boolean))
set_option maxRecDepth 20000 in
theorem cb_M_isNoCursor : zCb m_M_isNoCursor 1 := ⟨zU7 223 (by rfl) rfl, ini_M, pqn24, pqd8, by decide⟩
theorem in_M_isNoCursor : Cond.instanceMethod m_M_isNoCursor.1 ∈ zT := zU7 222 (by decide +kernel) rfl
theorem se_M_isNoCursor : Cond.selects "PartlisterModel" m_M_isNoCursor.1 m_M_isNoCursor.1 ∈ zT := zT_s (⟨"PartlisterModel", "isNoCursor", "(I)Z"⟩, 9) (by decide +kernel) rfl rfl
def m_M_isNoKey : zM := (⟨"PartlisterModel", "isNoKey", "(I)Z"⟩, prog_7_method_36_code, 2, (Option.some Jvm.ClassFile.FieldType.boolean))
set_option maxRecDepth 20000 in
theorem cb_M_isNoKey : zCb m_M_isNoKey 1 := ⟨zU7 82 (by rfl) rfl, ini_M, pqn24, pqd8, by decide⟩
theorem in_M_isNoKey : Cond.instanceMethod m_M_isNoKey.1 ∈ zT := zU7 81 (by decide +kernel) rfl
theorem se_M_isNoKey : Cond.selects "PartlisterModel" m_M_isNoKey.1 m_M_isNoKey.1 ∈ zT := zT_s (⟨"PartlisterModel", "isNoKey", "(I)Z"⟩, 9) (by decide +kernel) rfl rfl
def m_M_isNoList : zM := (⟨"PartlisterModel", "isNoList", "(I)Z"⟩, prog_7_method_7_code, 2, (Option.some Jvm.ClassFile.FieldType.boolean))
set_option maxRecDepth 20000 in
theorem cb_M_isNoList : zCb m_M_isNoList 1 := ⟨zU6 160 (by rfl) rfl, ini_M, pqn24, pqd8, by decide⟩
theorem in_M_isNoList : Cond.instanceMethod m_M_isNoList.1 ∈ zT := zU6 159 (by decide +kernel) rfl
theorem se_M_isNoList : Cond.selects "PartlisterModel" m_M_isNoList.1 m_M_isNoList.1 ∈ zT := zT_s (⟨"PartlisterModel", "isNoList", "(I)Z"⟩, 9) (by decide +kernel) rfl rfl
def m_M_isNoPart : zM := (⟨"PartlisterModel", "isNoPart", "(I)Z"⟩, prog_7_method_8_code, 2, (Option.some Jvm.ClassFile.FieldType.boolean))
set_option maxRecDepth 20000 in
theorem cb_M_isNoPart : zCb m_M_isNoPart 1 := ⟨zU7 188 (by rfl) rfl, ini_M, pqn24, pqd8, by decide⟩
theorem in_M_isNoPart : Cond.instanceMethod m_M_isNoPart.1 ∈ zT := zU7 187 (by decide +kernel) rfl
theorem se_M_isNoPart : Cond.selects "PartlisterModel" m_M_isNoPart.1 m_M_isNoPart.1 ∈ zT := zT_s (⟨"PartlisterModel", "isNoPart", "(I)Z"⟩, 9) (by decide +kernel) rfl rfl
def m_M_isNoPlace : zM := (⟨"PartlisterModel", "isNoPlace", "(II)Z"⟩, prog_7_method_14_code, 3, (Option.some Jvm.ClassFile.FieldType.boolean))
set_option maxRecDepth 20000 in
theorem cb_M_isNoPlace : zCb m_M_isNoPlace 2 := ⟨zU7 50 (by rfl) rfl, ini_M, pqn24, pqd4, by decide⟩
theorem in_M_isNoPlace : Cond.instanceMethod m_M_isNoPlace.1 ∈ zT := zU7 49 (by decide +kernel) rfl
theorem se_M_isNoPlace : Cond.selects "PartlisterModel" m_M_isNoPlace.1 m_M_isNoPlace.1 ∈ zT := zT_s (⟨"PartlisterModel", "isNoPlace", "(II)Z"⟩, 9) (by decide +kernel) rfl rfl
def m_M_isSame : zM := (⟨"PartlisterModel", "isSame", "(II)Z"⟩, prog_7_method_84_code, 3, (Option.some Jvm.ClassFile.FieldType.boolean))
set_option maxRecDepth 20000 in
theorem cb_M_isSame : zCb m_M_isSame 2 := ⟨zU8 71 (by rfl) rfl, ini_M, pqn24, pqd4, by decide⟩
theorem in_M_isSame : Cond.instanceMethod m_M_isSame.1 ∈ zT := zU8 69 (by decide +kernel) rfl
theorem se_M_isSame : Cond.selects "PartlisterModel" m_M_isSame.1 m_M_isSame.1 ∈ zT := zU8 70 (by decide +kernel) rfl
def m_M_isSorted : zM := (⟨"PartlisterModel", "isSorted", "(I)Z"⟩, prog_7_method_86_code, 3, (Option.some Jvm.ClassFile.FieldType.boolean))
set_option maxRecDepth 20000 in
theorem cb_M_isSorted : zCb m_M_isSorted 1 := ⟨zU8 95 (by rfl) rfl, ini_M, pqn24, pqd8, by decide⟩
theorem in_M_isSorted : Cond.instanceMethod m_M_isSorted.1 ∈ zT := zU8 94 (by decide +kernel) rfl
theorem se_M_isSorted : Cond.selects "PartlisterModel" m_M_isSorted.1 m_M_isSorted.1 ∈ zT := zT_s (⟨"PartlisterModel", "isSorted", "(I)Z"⟩, 9) (by decide +kernel) rfl rfl
def m_M_isSound : zM := (⟨"PartlisterModel", "isSound", "()Z"⟩, prog_7_method_101_code, 1, (Option.some Jvm.ClassFile.FieldType.boolean))
set_option maxRecDepth 20000 in
theorem cb_M_isSound : zCb m_M_isSound 0 := ⟨zU8 156 (by rfl) rfl, ini_M, pqn24, pqd12, by decide⟩
theorem in_M_isSound : Cond.instanceMethod m_M_isSound.1 ∈ zT := zU8 154 (by decide +kernel) rfl
theorem se_M_isSound : Cond.selects "PartlisterModel" m_M_isSound.1 m_M_isSound.1 ∈ zT := zU8 155 (by decide +kernel) rfl
def m_M_isWhole : zM := (⟨"PartlisterModel", "isWhole", "()Z"⟩, prog_7_method_100_code, 5, (Option.some Jvm.ClassFile.FieldType.boolean))
set_option maxRecDepth 20000 in
theorem cb_M_isWhole : zCb m_M_isWhole 0 := ⟨zU8 160 (by rfl) rfl, ini_M, pqn24, pqd12, by decide⟩
theorem in_M_isWhole : Cond.instanceMethod m_M_isWhole.1 ∈ zT := zU8 159 (by decide +kernel) rfl
theorem se_M_isWhole : Cond.selects "PartlisterModel" m_M_isWhole.1 m_M_isWhole.1 ∈ zT := zT_s (⟨"PartlisterModel", "isWhole", "()Z"⟩, 9) (by decide +kernel) rfl rfl
def m_M_key : zM := (⟨"PartlisterModel", "key", "(II)I"⟩, prog_7_method_70_code, 3, (Option.some Jvm.ClassFile.FieldType.int))
set_option maxRecDepth 20000 in
theorem cb_M_key : zCb m_M_key 2 := ⟨zU8 23 (by rfl) rfl, ini_M, pqn24, pqd2, by decide⟩
theorem in_M_key : Cond.instanceMethod m_M_key.1 ∈ zT := zU8 21 (by decide +kernel) rfl
theorem se_M_key : Cond.selects "PartlisterModel" m_M_key.1 m_M_key.1 ∈ zT := zU8 22 (by decide +kernel) rfl
def m_M_keys : zM := (⟨"PartlisterModel", "keys", "(IZ)[Z"⟩, prog_7_method_39_code, 5, (Option.some (Jvm.ClassFile.FieldType.array Jvm.ClassFile.FieldType.boolean)))
set_option maxRecDepth 20000 in
theorem cb_M_keys : zCb m_M_keys 2 := ⟨zU7 98 (by rfl) rfl, ini_M, pqn24, pqd29, by decide⟩
theorem in_M_keys : Cond.instanceMethod m_M_keys.1 ∈ zT := zU7 97 (by decide +kernel) rfl
theorem se_M_keys : Cond.selects "PartlisterModel" m_M_keys.1 m_M_keys.1 ∈ zT := zT_s (⟨"PartlisterModel", "keys", "(IZ)[Z"⟩, 9) (by decide +kernel) rfl rfl
def m_M_knock : zM := (⟨"PartlisterModel", "knock", "()I"⟩, prog_7_method_102_code, 1, (Option.some Jvm.ClassFile.FieldType.int))
set_option maxRecDepth 20000 in
theorem cb_M_knock : zCb m_M_knock 0 := ⟨zU8 164 (by rfl) rfl, ini_M, pqn24, pqd13, by decide⟩
theorem in_M_knock : Cond.instanceMethod m_M_knock.1 ∈ zT := zU8 162 (by decide +kernel) rfl
theorem se_M_knock : Cond.selects "PartlisterModel" m_M_knock.1 m_M_knock.1 ∈ zT := zU8 163 (by decide +kernel) rfl
def m_M_last : zM := (⟨"PartlisterModel", "last", "(II)I"⟩, prog_7_method_73_code, 3, (Option.some Jvm.ClassFile.FieldType.int))
set_option maxRecDepth 20000 in
theorem cb_M_last : zCb m_M_last 2 := ⟨zU8 35 (by rfl) rfl, ini_M, pqn24, pqd2, by decide⟩
theorem in_M_last : Cond.instanceMethod m_M_last.1 ∈ zT := zU8 33 (by decide +kernel) rfl
theorem se_M_last : Cond.selects "PartlisterModel" m_M_last.1 m_M_last.1 ∈ zT := zU8 34 (by decide +kernel) rfl
def m_M_lastOf : zM := (⟨"PartlisterModel", "lastOf", "(II)I"⟩, prog_7_method_35_code, 4, (Option.some Jvm.ClassFile.FieldType.int))
set_option maxRecDepth 20000 in
theorem cb_M_lastOf : zCb m_M_lastOf 2 := ⟨zU8 39 (by rfl) rfl, ini_M, pqn24, pqd2, by decide⟩
theorem in_M_lastOf : Cond.instanceMethod m_M_lastOf.1 ∈ zT := zU8 38 (by decide +kernel) rfl
theorem se_M_lastOf : Cond.selects "PartlisterModel" m_M_lastOf.1 m_M_lastOf.1 ∈ zT := zT_s (⟨"PartlisterModel", "lastOf", "(II)I"⟩, 9) (by decide +kernel) rfl rfl
def m_M_length : zM := (⟨"PartlisterModel", "length", "(I)I"⟩, prog_7_method_11_code, 2, (Option.some Jvm.ClassFile.FieldType.int))
set_option maxRecDepth 20000 in
theorem cb_M_length : zCb m_M_length 1 := ⟨zU6 203 (by rfl) rfl, ini_M, pqn24, pqd6, by decide⟩
theorem in_M_length : Cond.instanceMethod m_M_length.1 ∈ zT := zU6 202 (by decide +kernel) rfl
theorem se_M_length : Cond.selects "PartlisterModel" m_M_length.1 m_M_length.1 ∈ zT := zT_s (⟨"PartlisterModel", "length", "(I)I"⟩, 9) (by decide +kernel) rfl rfl
def m_M_liesAt : zM := (⟨"PartlisterModel", "liesAt", "(III)Z"⟩, prog_7_method_79_code, 5, (Option.some Jvm.ClassFile.FieldType.boolean))
set_option maxRecDepth 20000 in
theorem cb_M_liesAt : zCb m_M_liesAt 3 := ⟨zU8 79 (by rfl) rfl, ini_M, pqn24, pqd10, by decide⟩
theorem in_M_liesAt : Cond.instanceMethod m_M_liesAt.1 ∈ zT := zU8 78 (by decide +kernel) rfl
theorem se_M_liesAt : Cond.selects "PartlisterModel" m_M_liesAt.1 m_M_liesAt.1 ∈ zT := zT_s (⟨"PartlisterModel", "liesAt", "(III)Z"⟩, 9) (by decide +kernel) rfl rfl
def m_M_make : zM := (⟨"PartlisterModel", "make", "(I)[I"⟩, prog_7_method_16_code, 2, (Option.some (Jvm.ClassFile.FieldType.array Jvm.ClassFile.FieldType.int)))
set_option maxRecDepth 20000 in
theorem cb_M_make : zCb m_M_make 1 := ⟨zU6 207 (by rfl) rfl, ini_M, pqn24, pqd30, by decide⟩
theorem in_M_make : Cond.instanceMethod m_M_make.1 ∈ zT := zU6 206 (by decide +kernel) rfl
theorem se_M_make : Cond.selects "PartlisterModel" m_M_make.1 m_M_make.1 ∈ zT := zT_s (⟨"PartlisterModel", "make", "(I)[I"⟩, 9) (by decide +kernel) rfl rfl
def m_M_many : zM := (⟨"PartlisterModel", "many", "(II)I"⟩, prog_7_method_75_code, 3, (Option.some Jvm.ClassFile.FieldType.int))
set_option maxRecDepth 20000 in
theorem cb_M_many : zCb m_M_many 2 := ⟨zU8 43 (by rfl) rfl, ini_M, pqn24, pqd2, by decide⟩
theorem in_M_many : Cond.instanceMethod m_M_many.1 ∈ zT := zU8 41 (by decide +kernel) rfl
theorem se_M_many : Cond.selects "PartlisterModel" m_M_many.1 m_M_many.1 ∈ zT := zU8 42 (by decide +kernel) rfl
def m_M_manyOf : zM := (⟨"PartlisterModel", "manyOf", "(II)I"⟩, prog_7_method_74_code, 5, (Option.some Jvm.ClassFile.FieldType.int))
set_option maxRecDepth 20000 in
theorem cb_M_manyOf : zCb m_M_manyOf 2 := ⟨zU8 47 (by rfl) rfl, ini_M, pqn24, pqd2, by decide⟩
theorem in_M_manyOf : Cond.instanceMethod m_M_manyOf.1 ∈ zT := zU8 46 (by decide +kernel) rfl
theorem se_M_manyOf : Cond.selects "PartlisterModel" m_M_manyOf.1 m_M_manyOf.1 ∈ zT := zT_s (⟨"PartlisterModel", "manyOf", "(II)I"⟩, 9) (by decide +kernel) rfl rfl
def m_M_move : zM := (⟨"PartlisterModel", "move", "(II)I"⟩, prog_7_method_52_code, 6, (Option.some Jvm.ClassFile.FieldType.int))
set_option maxRecDepth 20000 in
theorem cb_M_move : zCb m_M_move 2 := ⟨zU7 152 (by rfl) rfl, ini_M, pqn24, pqd2, by decide⟩
theorem in_M_move : Cond.instanceMethod m_M_move.1 ∈ zT := zU7 150 (by decide +kernel) rfl
theorem se_M_move : Cond.selects "PartlisterModel" m_M_move.1 m_M_move.1 ∈ zT := zU7 151 (by decide +kernel) rfl
def m_M_next : zM := (⟨"PartlisterModel", "next", "(I)I"⟩, prog_7_method_61_code, 3, (Option.some Jvm.ClassFile.FieldType.int))
set_option maxRecDepth 20000 in
theorem cb_M_next : zCb m_M_next 1 := ⟨zU7 219 (by rfl) rfl, ini_M, pqn24, pqd6, by decide⟩
theorem in_M_next : Cond.instanceMethod m_M_next.1 ∈ zT := zU7 217 (by decide +kernel) rfl
theorem se_M_next : Cond.selects "PartlisterModel" m_M_next.1 m_M_next.1 ∈ zT := zU7 218 (by decide +kernel) rfl
def m_M_ofCursor : zM := (⟨"PartlisterModel", "ofCursor", "(II)I"⟩, prog_7_method_97_code, 3, (Option.some Jvm.ClassFile.FieldType.int))
set_option maxRecDepth 20000 in
theorem cb_M_ofCursor : zCb m_M_ofCursor 2 := ⟨zU8 140 (by rfl) rfl, ini_M, pqn24, pqd2, by decide⟩
theorem in_M_ofCursor : Cond.instanceMethod m_M_ofCursor.1 ∈ zT := zU8 138 (by decide +kernel) rfl
theorem se_M_ofCursor : Cond.selects "PartlisterModel" m_M_ofCursor.1 m_M_ofCursor.1 ∈ zT := zU8 139 (by decide +kernel) rfl
def m_M_ofPart : zM := (⟨"PartlisterModel", "ofPart", "(II)I"⟩, prog_7_method_95_code, 3, (Option.some Jvm.ClassFile.FieldType.int))
set_option maxRecDepth 20000 in
theorem cb_M_ofPart : zCb m_M_ofPart 2 := ⟨zU8 132 (by rfl) rfl, ini_M, pqn24, pqd2, by decide⟩
theorem in_M_ofPart : Cond.instanceMethod m_M_ofPart.1 ∈ zT := zU8 130 (by decide +kernel) rfl
theorem se_M_ofPart : Cond.selects "PartlisterModel" m_M_ofPart.1 m_M_ofPart.1 ∈ zT := zU8 131 (by decide +kernel) rfl
def m_M_one : zM := (⟨"PartlisterModel", "one", "(Z)I"⟩, prog_7_method_2_code, 1, (Option.some Jvm.ClassFile.FieldType.int))
set_option maxRecDepth 20000 in
theorem cb_M_one : zCb m_M_one 1 := ⟨zU7 144 (by rfl) rfl, ini_M, pqn24, pqd31, by decide⟩
theorem st_M_one : Cond.static m_M_one.1 ∈ zT := zU7 143 (by decide +kernel) rfl
def m_M_order : zM := (⟨"PartlisterModel", "order", "(Ljava/util/ArrayList;I)V"⟩, prog_7_method_49_code, 5, (Option.none : Option Jvm.ClassFile.FieldType))
set_option maxRecDepth 20000 in
theorem cb_M_order : zCb m_M_order 2 := ⟨zU7 138 (by rfl) rfl, ini_M, pqn24, pqd32, by decide⟩
theorem st_M_order : Cond.static m_M_order.1 ∈ zT := zU7 137 (by decide +kernel) rfl
def m_M_pack : zM := (⟨"PartlisterModel", "pack", "(IZ)I"⟩, prog_7_method_47_code, 4, (Option.some Jvm.ClassFile.FieldType.int))
set_option maxRecDepth 20000 in
theorem cb_M_pack : zCb m_M_pack 2 := ⟨zU7 131 (by rfl) rfl, ini_M, pqn24, pqd11, by decide⟩
theorem in_M_pack : Cond.instanceMethod m_M_pack.1 ∈ zT := zU7 129 (by decide +kernel) rfl
theorem se_M_pack : Cond.selects "PartlisterModel" m_M_pack.1 m_M_pack.1 ∈ zT := zU7 130 (by decide +kernel) rfl
def m_M_part : zM := (⟨"PartlisterModel", "part", "(III)I"⟩, prog_7_method_55_code, 5, (Option.some Jvm.ClassFile.FieldType.int))
set_option maxRecDepth 20000 in
theorem cb_M_part : zCb m_M_part 3 := ⟨zU7 161 (by rfl) rfl, ini_M, pqn24, pqd3, by decide⟩
theorem in_M_part : Cond.instanceMethod m_M_part.1 ∈ zT := zU7 159 (by decide +kernel) rfl
theorem se_M_part : Cond.selects "PartlisterModel" m_M_part.1 m_M_part.1 ∈ zT := zU7 160 (by decide +kernel) rfl
def m_M_partTold : zM := (⟨"PartlisterModel", "partTold", "(II)I"⟩, prog_7_method_94_code, 4, (Option.some Jvm.ClassFile.FieldType.int))
set_option maxRecDepth 20000 in
theorem cb_M_partTold : zCb m_M_partTold 2 := ⟨zU8 136 (by rfl) rfl, ini_M, pqn24, pqd2, by decide⟩
theorem in_M_partTold : Cond.instanceMethod m_M_partTold.1 ∈ zT := zU8 135 (by decide +kernel) rfl
theorem se_M_partTold : Cond.selects "PartlisterModel" m_M_partTold.1 m_M_partTold.1 ∈ zT := zT_s (⟨"PartlisterModel", "partTold", "(II)I"⟩, 9) (by decide +kernel) rfl rfl
def m_M_previous : zM := (⟨"PartlisterModel", "previous", "(I)I"⟩, prog_7_method_62_code, 3, (Option.some Jvm.ClassFile.FieldType.int))
set_option maxRecDepth 20000 in
theorem cb_M_previous : zCb m_M_previous 1 := ⟨zU7 231 (by rfl) rfl, ini_M, pqn24, pqd6, by decide⟩
theorem in_M_previous : Cond.instanceMethod m_M_previous.1 ∈ zT := zU7 229 (by decide +kernel) rfl
theorem se_M_previous : Cond.selects "PartlisterModel" m_M_previous.1 m_M_previous.1 ∈ zT := zU7 230 (by decide +kernel) rfl
def m_M_put : zM := (⟨"PartlisterModel", "put", "(II)I"⟩, prog_7_method_63_code, 4, (Option.some Jvm.ClassFile.FieldType.int))
set_option maxRecDepth 20000 in
theorem cb_M_put : zCb m_M_put 2 := ⟨zU7 235 (by rfl) rfl, ini_M, pqn24, pqd2, by decide⟩
theorem in_M_put : Cond.instanceMethod m_M_put.1 ∈ zT := zU7 233 (by decide +kernel) rfl
theorem se_M_put : Cond.selects "PartlisterModel" m_M_put.1 m_M_put.1 ∈ zT := zU7 234 (by decide +kernel) rfl
def m_M_refuse : zM := (⟨"PartlisterModel", "refuse", "(ZI)Z"⟩, prog_7_method_5_code, 3, (Option.some Jvm.ClassFile.FieldType.boolean))
set_option maxRecDepth 20000 in
theorem cb_M_refuse : zCb m_M_refuse 2 := ⟨zU6 171 (by rfl) rfl, ini_M, pqn24, pqd33, by decide⟩
theorem in_M_refuse : Cond.instanceMethod m_M_refuse.1 ∈ zT := zU6 170 (by decide +kernel) rfl
theorem se_M_refuse : Cond.selects "PartlisterModel" m_M_refuse.1 m_M_refuse.1 ∈ zT := zT_s (⟨"PartlisterModel", "refuse", "(ZI)Z"⟩, 9) (by decide +kernel) rfl rfl
def m_M_remove : zM := (⟨"PartlisterModel", "remove", "(II)Z"⟩, prog_7_method_37_code, 4, (Option.some Jvm.ClassFile.FieldType.boolean))
set_option maxRecDepth 20000 in
theorem cb_M_remove : zCb m_M_remove 2 := ⟨zU7 78 (by rfl) rfl, ini_M, pqn24, pqd4, by decide⟩
theorem in_M_remove : Cond.instanceMethod m_M_remove.1 ∈ zT := zU7 76 (by decide +kernel) rfl
theorem se_M_remove : Cond.selects "PartlisterModel" m_M_remove.1 m_M_remove.1 ∈ zT := zU7 77 (by decide +kernel) rfl
def m_M_removeAll : zM := (⟨"PartlisterModel", "removeAll", "(II)I"⟩, prog_7_method_41_code, 3, (Option.some Jvm.ClassFile.FieldType.int))
set_option maxRecDepth 20000 in
theorem cb_M_removeAll : zCb m_M_removeAll 2 := ⟨zU7 90 (by rfl) rfl, ini_M, pqn24, pqd2, by decide⟩
theorem in_M_removeAll : Cond.instanceMethod m_M_removeAll.1 ∈ zT := zU7 88 (by decide +kernel) rfl
theorem se_M_removeAll : Cond.selects "PartlisterModel" m_M_removeAll.1 m_M_removeAll.1 ∈ zT := zU7 89 (by decide +kernel) rfl
def m_M_removeAt : zM := (⟨"PartlisterModel", "removeAt", "(II)I"⟩, prog_7_method_33_code, 4, (Option.some Jvm.ClassFile.FieldType.int))
set_option maxRecDepth 20000 in
theorem cb_M_removeAt : zCb m_M_removeAt 2 := ⟨zU7 62 (by rfl) rfl, ini_M, pqn24, pqd2, by decide⟩
theorem in_M_removeAt : Cond.instanceMethod m_M_removeAt.1 ∈ zT := zU7 60 (by decide +kernel) rfl
theorem se_M_removeAt : Cond.selects "PartlisterModel" m_M_removeAt.1 m_M_removeAt.1 ∈ zT := zU7 61 (by decide +kernel) rfl
def m_M_removeIf : zM := (⟨"PartlisterModel", "removeIf", "(III)I"⟩, prog_7_method_43_code, 6, (Option.some Jvm.ClassFile.FieldType.int))
set_option maxRecDepth 20000 in
theorem cb_M_removeIf : zCb m_M_removeIf 3 := ⟨zU7 111 (by rfl) rfl, ini_M, pqn24, pqd3, by decide⟩
theorem in_M_removeIf : Cond.instanceMethod m_M_removeIf.1 ∈ zT := zU7 109 (by decide +kernel) rfl
theorem se_M_removeIf : Cond.selects "PartlisterModel" m_M_removeIf.1 m_M_removeIf.1 ∈ zT := zU7 110 (by decide +kernel) rfl
def m_M_replaceAll : zM := (⟨"PartlisterModel", "replaceAll", "(III)I"⟩, prog_7_method_45_code, 5, (Option.some Jvm.ClassFile.FieldType.int))
set_option maxRecDepth 20000 in
theorem cb_M_replaceAll : zCb m_M_replaceAll 3 := ⟨zU7 119 (by rfl) rfl, ini_M, pqn24, pqd3, by decide⟩
theorem in_M_replaceAll : Cond.instanceMethod m_M_replaceAll.1 ∈ zT := zU7 117 (by decide +kernel) rfl
theorem se_M_replaceAll : Cond.selects "PartlisterModel" m_M_replaceAll.1 m_M_replaceAll.1 ∈ zT := zU7 118 (by decide +kernel) rfl
def m_M_retainAll : zM := (⟨"PartlisterModel", "retainAll", "(II)I"⟩, prog_7_method_42_code, 3, (Option.some Jvm.ClassFile.FieldType.int))
set_option maxRecDepth 20000 in
theorem cb_M_retainAll : zCb m_M_retainAll 2 := ⟨zU7 107 (by rfl) rfl, ini_M, pqn24, pqd2, by decide⟩
theorem in_M_retainAll : Cond.instanceMethod m_M_retainAll.1 ∈ zT := zU7 105 (by decide +kernel) rfl
theorem se_M_retainAll : Cond.selects "PartlisterModel" m_M_retainAll.1 m_M_retainAll.1 ∈ zT := zU7 106 (by decide +kernel) rfl
def m_M_row : zM := (⟨"PartlisterModel", "row", "(I)Ljava/util/ArrayList;"⟩, prog_7_method_12_code, 2, (Option.some (Jvm.ClassFile.FieldType.object "java/util/ArrayList")))
set_option maxRecDepth 20000 in
theorem cb_M_row : zCb m_M_row 1 := ⟨zU6 179 (by rfl) rfl, ini_M, pqn24, pqd28, by decide⟩
theorem in_M_row : Cond.instanceMethod m_M_row.1 ∈ zT := zU6 178 (by decide +kernel) rfl
theorem se_M_row : Cond.selects "PartlisterModel" m_M_row.1 m_M_row.1 ∈ zT := zT_s (⟨"PartlisterModel", "row", "(I)Ljava/util/ArrayList;"⟩, 9) (by decide +kernel) rfl rfl
def m_M_rowOf : zM := (⟨"PartlisterModel", "rowOf", "(I)I"⟩, prog_7_method_9_code, 2, (Option.some Jvm.ClassFile.FieldType.int))
set_option maxRecDepth 20000 in
theorem cb_M_rowOf : zCb m_M_rowOf 1 := ⟨zU6 183 (by rfl) rfl, ini_M, pqn24, pqd6, by decide⟩
theorem in_M_rowOf : Cond.instanceMethod m_M_rowOf.1 ∈ zT := zU6 182 (by decide +kernel) rfl
theorem se_M_rowOf : Cond.selects "PartlisterModel" m_M_rowOf.1 m_M_rowOf.1 ∈ zT := zT_s (⟨"PartlisterModel", "rowOf", "(I)I"⟩, 9) (by decide +kernel) rfl rfl
def m_M_run : zM := (⟨"PartlisterModel", "run", "(IZ)I"⟩, prog_7_method_66_code, 5, (Option.some Jvm.ClassFile.FieldType.int))
set_option maxRecDepth 20000 in
theorem cb_M_run : zCb m_M_run 2 := ⟨zU8 7 (by rfl) rfl, ini_M, pqn24, pqd11, by decide⟩
theorem in_M_run : Cond.instanceMethod m_M_run.1 ∈ zT := zU8 5 (by decide +kernel) rfl
theorem se_M_run : Cond.selects "PartlisterModel" m_M_run.1 m_M_run.1 ∈ zT := zU8 6 (by decide +kernel) rfl
def m_M_same : zM := (⟨"PartlisterModel", "same", "(II)Z"⟩, prog_7_method_80_code, 3, (Option.some Jvm.ClassFile.FieldType.boolean))
set_option maxRecDepth 20000 in
theorem cb_M_same : zCb m_M_same 2 := ⟨zU8 75 (by rfl) rfl, ini_M, pqn24, pqd4, by decide⟩
theorem in_M_same : Cond.instanceMethod m_M_same.1 ∈ zT := zU8 74 (by decide +kernel) rfl
theorem se_M_same : Cond.selects "PartlisterModel" m_M_same.1 m_M_same.1 ∈ zT := zT_s (⟨"PartlisterModel", "same", "(II)Z"⟩, 9) (by decide +kernel) rfl rfl
def m_M_set : zM := (⟨"PartlisterModel", "set", "(III)I"⟩, prog_7_method_31_code, 4, (Option.some Jvm.ClassFile.FieldType.int))
set_option maxRecDepth 20000 in
theorem cb_M_set : zCb m_M_set 3 := ⟨zU7 46 (by rfl) rfl, ini_M, pqn24, pqd3, by decide⟩
theorem in_M_set : Cond.instanceMethod m_M_set.1 ∈ zT := zU7 44 (by decide +kernel) rfl
theorem se_M_set : Cond.selects "PartlisterModel" m_M_set.1 m_M_set.1 ∈ zT := zU7 45 (by decide +kernel) rfl
def m_M_size : zM := (⟨"PartlisterModel", "size", "(I)I"⟩, prog_7_method_69_code, 2, (Option.some Jvm.ClassFile.FieldType.int))
set_option maxRecDepth 20000 in
theorem cb_M_size : zCb m_M_size 1 := ⟨zU8 15 (by rfl) rfl, ini_M, pqn24, pqd6, by decide⟩
theorem in_M_size : Cond.instanceMethod m_M_size.1 ∈ zT := zU8 13 (by decide +kernel) rfl
theorem se_M_size : Cond.selects "PartlisterModel" m_M_size.1 m_M_size.1 ∈ zT := zU8 14 (by decide +kernel) rfl
def m_M_sizeOf : zM := (⟨"PartlisterModel", "sizeOf", "(I)I"⟩, prog_7_method_68_code, 2, (Option.some Jvm.ClassFile.FieldType.int))
set_option maxRecDepth 20000 in
theorem cb_M_sizeOf : zCb m_M_sizeOf 1 := ⟨zU8 19 (by rfl) rfl, ini_M, pqn24, pqd6, by decide⟩
theorem in_M_sizeOf : Cond.instanceMethod m_M_sizeOf.1 ∈ zT := zU8 18 (by decide +kernel) rfl
theorem se_M_sizeOf : Cond.selects "PartlisterModel" m_M_sizeOf.1 m_M_sizeOf.1 ∈ zT := zT_s (⟨"PartlisterModel", "sizeOf", "(I)I"⟩, 9) (by decide +kernel) rfl rfl
def m_M_sort : zM := (⟨"PartlisterModel", "sort", "(II)I"⟩, prog_7_method_50_code, 6, (Option.some Jvm.ClassFile.FieldType.int))
set_option maxRecDepth 20000 in
theorem cb_M_sort : zCb m_M_sort 2 := ⟨zU7 135 (by rfl) rfl, ini_M, pqn24, pqd2, by decide⟩
theorem in_M_sort : Cond.instanceMethod m_M_sort.1 ∈ zT := zU7 133 (by decide +kernel) rfl
theorem se_M_sort : Cond.selects "PartlisterModel" m_M_sort.1 m_M_sort.1 ∈ zT := zU7 134 (by decide +kernel) rfl
def m_M_spot : zM := (⟨"PartlisterModel", "spot", "(II)I"⟩, prog_7_method_87_code, 4, (Option.some Jvm.ClassFile.FieldType.int))
set_option maxRecDepth 20000 in
theorem cb_M_spot : zCb m_M_spot 2 := ⟨zU8 91 (by rfl) rfl, ini_M, pqn24, pqd2, by decide⟩
theorem in_M_spot : Cond.instanceMethod m_M_spot.1 ∈ zT := zU8 89 (by decide +kernel) rfl
theorem se_M_spot : Cond.selects "PartlisterModel" m_M_spot.1 m_M_spot.1 ∈ zT := zU8 90 (by decide +kernel) rfl
def m_M_start : zM := (⟨"PartlisterModel", "start", "(ZI)Z"⟩, prog_7_method_6_code, 3, (Option.some Jvm.ClassFile.FieldType.boolean))
set_option maxRecDepth 20000 in
theorem cb_M_start : zCb m_M_start 2 := ⟨zU6 167 (by rfl) rfl, ini_M, pqn24, pqd33, by decide⟩
theorem in_M_start : Cond.instanceMethod m_M_start.1 ∈ zT := zU6 166 (by decide +kernel) rfl
theorem se_M_start : Cond.selects "PartlisterModel" m_M_start.1 m_M_start.1 ∈ zT := zT_s (⟨"PartlisterModel", "start", "(ZI)Z"⟩, 9) (by decide +kernel) rfl rfl
def m_M_tag : zM := (⟨"PartlisterModel", "tag", "(II)I"⟩, prog_7_method_71_code, 3, (Option.some Jvm.ClassFile.FieldType.int))
set_option maxRecDepth 20000 in
theorem cb_M_tag : zCb m_M_tag 2 := ⟨zU8 27 (by rfl) rfl, ini_M, pqn24, pqd2, by decide⟩
theorem in_M_tag : Cond.instanceMethod m_M_tag.1 ∈ zT := zU8 25 (by decide +kernel) rfl
theorem se_M_tag : Cond.selects "PartlisterModel" m_M_tag.1 m_M_tag.1 ∈ zT := zU8 26 (by decide +kernel) rfl
def m_M_take : zM := (⟨"PartlisterModel", "take", "(II)[I"⟩, prog_7_method_32_code, 3, (Option.some (Jvm.ClassFile.FieldType.array Jvm.ClassFile.FieldType.int)))
set_option maxRecDepth 20000 in
theorem cb_M_take : zCb m_M_take 2 := ⟨zU7 66 (by rfl) rfl, ini_M, pqn24, pqd26, by decide⟩
theorem in_M_take : Cond.instanceMethod m_M_take.1 ∈ zT := zU7 65 (by decide +kernel) rfl
theorem se_M_take : Cond.selects "PartlisterModel" m_M_take.1 m_M_take.1 ∈ zT := zT_s (⟨"PartlisterModel", "take", "(II)[I"⟩, 9) (by decide +kernel) rfl rfl
def m_M_takeAll : zM := (⟨"PartlisterModel", "takeAll", "(I[Z)I"⟩, prog_7_method_38_code, 5, (Option.some Jvm.ClassFile.FieldType.int))
set_option maxRecDepth 20000 in
theorem cb_M_takeAll : zCb m_M_takeAll 2 := ⟨zU7 102 (by rfl) rfl, ini_M, pqn24, pqd34, by decide⟩
theorem in_M_takeAll : Cond.instanceMethod m_M_takeAll.1 ∈ zT := zU7 101 (by decide +kernel) rfl
theorem se_M_takeAll : Cond.selects "PartlisterModel" m_M_takeAll.1 m_M_takeAll.1 ∈ zT := zT_s (⟨"PartlisterModel", "takeAll", "(I[Z)I"⟩, 9) (by decide +kernel) rfl rfl
def m_M_text : zM := (⟨"PartlisterModel", "text", "(I)Ljava/lang/String;"⟩, prog_7_method_93_code, 2, (Option.some (Jvm.ClassFile.FieldType.object "java/lang/String")))
set_option maxRecDepth 20000 in
theorem cb_M_text : zCb m_M_text 1 := ⟨zU8 115 (by rfl) rfl, ini_M, pqn24, pqd18, by decide⟩
theorem in_M_text : Cond.instanceMethod m_M_text.1 ∈ zT := zU8 113 (by decide +kernel) rfl
theorem se_M_text : Cond.selects "PartlisterModel" m_M_text.1 m_M_text.1 ∈ zT := zU8 114 (by decide +kernel) rfl
def m_M_textOf : zM := (⟨"PartlisterModel", "textOf", "(I)Ljava/lang/String;"⟩, prog_7_method_92_code, 4, (Option.some (Jvm.ClassFile.FieldType.object "java/lang/String")))
set_option maxRecDepth 20000 in
theorem cb_M_textOf : zCb m_M_textOf 1 := ⟨zU8 120 (by rfl) rfl, ini_M, pqn24, pqd18, by decide⟩
theorem in_M_textOf : Cond.instanceMethod m_M_textOf.1 ∈ zT := zU8 119 (by decide +kernel) rfl
theorem se_M_textOf : Cond.selects "PartlisterModel" m_M_textOf.1 m_M_textOf.1 ∈ zT := zT_s (⟨"PartlisterModel", "textOf", "(I)Ljava/lang/String;"⟩, 9) (by decide +kernel) rfl rfl
def m_M_thrown : zM := (⟨"PartlisterModel", "thrown", "()I"⟩, prog_7_method_4_code, 1, (Option.some Jvm.ClassFile.FieldType.int))
set_option maxRecDepth 20000 in
theorem cb_M_thrown : zCb m_M_thrown 0 := ⟨zU6 152 (by rfl) rfl, ini_M, pqn24, pqd13, by decide⟩
theorem in_M_thrown : Cond.instanceMethod m_M_thrown.1 ∈ zT := zU6 150 (by decide +kernel) rfl
theorem se_M_thrown : Cond.selects "PartlisterModel" m_M_thrown.1 m_M_thrown.1 ∈ zT := zU6 151 (by decide +kernel) rfl
def m_M_turn : zM := (⟨"PartlisterModel", "turn", "(I)I"⟩, prog_7_method_51_code, 4, (Option.some Jvm.ClassFile.FieldType.int))
set_option maxRecDepth 20000 in
theorem cb_M_turn : zCb m_M_turn 1 := ⟨zU7 148 (by rfl) rfl, ini_M, pqn24, pqd6, by decide⟩
theorem in_M_turn : Cond.instanceMethod m_M_turn.1 ∈ zT := zU7 146 (by decide +kernel) rfl
theorem se_M_turn : Cond.selects "PartlisterModel" m_M_turn.1 m_M_turn.1 ∈ zT := zU7 147 (by decide +kernel) rfl
def m_M_write : zM := (⟨"PartlisterModel", "write", "(II[I)[I"⟩, prog_7_method_30_code, 4, (Option.some (Jvm.ClassFile.FieldType.array Jvm.ClassFile.FieldType.int)))
set_option maxRecDepth 20000 in
theorem cb_M_write : zCb m_M_write 3 := ⟨zU7 54 (by rfl) rfl, ini_M, pqn24, pqd35, by decide⟩
theorem in_M_write : Cond.instanceMethod m_M_write.1 ∈ zT := zU7 53 (by decide +kernel) rfl
theorem se_M_write : Cond.selects "PartlisterModel" m_M_write.1 m_M_write.1 ∈ zT := zT_s (⟨"PartlisterModel", "write", "(II[I)[I"⟩, 9) (by decide +kernel) rfl rfl
def m_MC_init : zM := (⟨"PartlisterModel$Cursor", "<init>", "()V"⟩, prog_8_method_1_code, 1, (Option.none : Option Jvm.ClassFile.FieldType))
set_option maxRecDepth 20000 in
theorem cb_MC_init : zCb m_MC_init 0 := ⟨zU7 200 (by rfl) rfl, ini_MC, pqn36, pqd1, by decide⟩
theorem in_MC_init : Cond.instanceMethod m_MC_init.1 ∈ zT := zU7 199 (by decide +kernel) rfl
def m_MP_init : zM := (⟨"PartlisterModel$Part", "<init>", "()V"⟩, prog_9_method_1_code, 1, (Option.none : Option Jvm.ClassFile.FieldType))
set_option maxRecDepth 20000 in
theorem cb_MP_init : zCb m_MP_init 0 := ⟨zU7 169 (by rfl) rfl, ini_MP, pqn37, pqd1, by decide⟩
theorem in_MP_init : Cond.instanceMethod m_MP_init.1 ∈ zT := zU7 168 (by decide +kernel) rfl
def m_AB_init : zM := (⟨"java/lang/AbstractStringBuilder", "<init>", "(I)V"⟩, prog_11_method_2_code, 2, (Option.none : Option Jvm.ClassFile.FieldType))
set_option maxRecDepth 20000 in
theorem cb_AB_init : zCb m_AB_init 1 := ⟨zU4 236 (by rfl) rfl, ini_AB, pqn38, pqd17, by decide⟩
theorem in_AB_init : Cond.instanceMethod m_AB_init.1 ∈ zT := zU4 235 (by decide +kernel) rfl
def m_AB_append1 : zM := (⟨"java/lang/AbstractStringBuilder", "append", "(C)Ljava/lang/AbstractStringBuilder;"⟩, prog_11_method_31_code, 2, (Option.some (Jvm.ClassFile.FieldType.object "java/lang/AbstractStringBuilder")))
set_option maxRecDepth 20000 in
theorem cb_AB_append1 : zCb m_AB_append1 1 := ⟨zU5 26 (by rfl) rfl, ini_AB, pqn38, pqd39, by decide⟩
theorem in_AB_append1 : Cond.instanceMethod m_AB_append1.1 ∈ zT := zU5 25 (by decide +kernel) rfl
def m_AB_append2 : zM := (⟨"java/lang/AbstractStringBuilder", "append", "(I)Ljava/lang/AbstractStringBuilder;"⟩, prog_11_method_32_code, 4, (Option.some (Jvm.ClassFile.FieldType.object "java/lang/AbstractStringBuilder")))
set_option maxRecDepth 20000 in
theorem cb_AB_append2 : zCb m_AB_append2 1 := ⟨zU5 121 (by rfl) rfl, ini_AB, pqn38, pqd40, by decide⟩
theorem in_AB_append2 : Cond.instanceMethod m_AB_append2.1 ∈ zT := zU5 120 (by decide +kernel) rfl
def m_AB_append3 : zM := (⟨"java/lang/AbstractStringBuilder", "append", "(Ljava/lang/String;)Ljava/lang/AbstractStringBuilder;"⟩, prog_11_method_22_code, 3, (Option.some (Jvm.ClassFile.FieldType.object "java/lang/AbstractStringBuilder")))
set_option maxRecDepth 20000 in
theorem cb_AB_append3 : zCb m_AB_append3 1 := ⟨zU5 196 (by rfl) rfl, ini_AB, pqn38, pqd41, by decide⟩
theorem in_AB_append3 : Cond.instanceMethod m_AB_append3.1 ∈ zT := zU5 195 (by decide +kernel) rfl
def m_AB_appendNull : zM := (⟨"java/lang/AbstractStringBuilder", "appendNull", "()Ljava/lang/AbstractStringBuilder;"⟩, prog_11_method_26_code, 3, (Option.some (Jvm.ClassFile.FieldType.object "java/lang/AbstractStringBuilder")))
set_option maxRecDepth 20000 in
theorem cb_AB_appendNull : zCb m_AB_appendNull 0 := ⟨zU5 200 (by rfl) rfl, ini_AB, pqn38, pqd42, by decide⟩
theorem in_AB_appendNull : Cond.instanceMethod m_AB_appendNull.1 ∈ zT := zU5 199 (by decide +kernel) rfl
theorem seSB_AB_appendNull : Cond.selects "java/lang/StringBuilder" m_AB_appendNull.1 m_AB_appendNull.1 ∈ zT := zT_x (by decide +kernel) rfl
def m_AB_ensureCapacityInternal : zM := (⟨"java/lang/AbstractStringBuilder", "ensureCapacityInternal", "(I)V"⟩, prog_11_method_9_code, 3, (Option.none : Option Jvm.ClassFile.FieldType))
set_option maxRecDepth 20000 in
theorem cb_AB_ensureCapacityInternal : zCb m_AB_ensureCapacityInternal 1 := ⟨zU5 30 (by rfl) rfl, ini_AB, pqn38, pqd17, by decide⟩
theorem in_AB_ensureCapacityInternal : Cond.instanceMethod m_AB_ensureCapacityInternal.1 ∈ zT := zU5 29 (by decide +kernel) rfl
theorem seSB_AB_ensureCapacityInternal : Cond.selects "java/lang/StringBuilder" m_AB_ensureCapacityInternal.1 m_AB_ensureCapacityInternal.1 ∈ zT := zT_x (by decide +kernel) rfl
def m_AB_getValue : zM := (⟨"java/lang/AbstractStringBuilder", "getValue", "()[B"⟩, prog_11_method_64_code, 1, (Option.some (Jvm.ClassFile.FieldType.array Jvm.ClassFile.FieldType.byte)))
set_option maxRecDepth 20000 in
theorem cb_AB_getValue : zCb m_AB_getValue 0 := ⟨zU5 166 (by rfl) rfl, ini_AB, pqn38, pqd43, by decide⟩
theorem in_AB_getValue : Cond.instanceMethod m_AB_getValue.1 ∈ zT := zU5 163 (by decide +kernel) rfl
theorem seSB_AB_getValue : Cond.selects "java/lang/StringBuilder" m_AB_getValue.1 m_AB_getValue.1 ∈ zT := zU5 165 (by decide +kernel) rfl
def m_AB_inflate : zM := (⟨"java/lang/AbstractStringBuilder", "inflate", "()V"⟩, prog_11_method_11_code, 2, (Option.none : Option Jvm.ClassFile.FieldType))
set_option maxRecDepth 20000 in
theorem cb_AB_inflate : zCb m_AB_inflate 0 := ⟨zU5 73 (by rfl) rfl, ini_AB, pqn38, pqd1, by decide⟩
theorem in_AB_inflate : Cond.instanceMethod m_AB_inflate.1 ∈ zT := zU5 72 (by decide +kernel) rfl
theorem seSB_AB_inflate : Cond.selects "java/lang/StringBuilder" m_AB_inflate.1 m_AB_inflate.1 ∈ zT := zT_x (by decide +kernel) rfl
def m_AB_inflateIfNeededFor : zM := (⟨"java/lang/AbstractStringBuilder", "inflateIfNeededFor", "(Ljava/lang/String;)V"⟩, prog_11_method_71_code, 2, (Option.none : Option Jvm.ClassFile.FieldType))
set_option maxRecDepth 20000 in
theorem cb_AB_inflateIfNeededFor : zCb m_AB_inflateIfNeededFor 1 := ⟨zU5 220 (by rfl) rfl, ini_AB, pqn38, pqd44, by decide⟩
theorem in_AB_inflateIfNeededFor : Cond.instanceMethod m_AB_inflateIfNeededFor.1 ∈ zT := zU5 219 (by decide +kernel) rfl
theorem seSB_AB_inflateIfNeededFor : Cond.selects "java/lang/StringBuilder" m_AB_inflateIfNeededFor.1 m_AB_inflateIfNeededFor.1 ∈ zT := zT_x (by decide +kernel) rfl
def m_AB_isLatin1 : zM := (⟨"java/lang/AbstractStringBuilder", "isLatin1", "()Z"⟩, prog_11_method_68_code, 1, (Option.some Jvm.ClassFile.FieldType.boolean))
set_option maxRecDepth 20000 in
theorem cb_AB_isLatin1 : zCb m_AB_isLatin1 0 := ⟨zU5 66 (by rfl) rfl, ini_AB, pqn38, pqd12, by decide⟩
theorem in_AB_isLatin1 : Cond.instanceMethod m_AB_isLatin1.1 ∈ zT := zU5 63 (by decide +kernel) rfl
theorem seSB_AB_isLatin1 : Cond.selects "java/lang/StringBuilder" m_AB_isLatin1.1 m_AB_isLatin1.1 ∈ zT := zU5 65 (by decide +kernel) rfl
def m_AB_length : zM := (⟨"java/lang/AbstractStringBuilder", "length", "()I"⟩, prog_11_method_6_code, 1, (Option.some Jvm.ClassFile.FieldType.int))
set_option maxRecDepth 20000 in
theorem cb_AB_length : zCb m_AB_length 0 := ⟨zU5 174 (by rfl) rfl, ini_AB, pqn38, pqd13, by decide⟩
theorem in_AB_length : Cond.instanceMethod m_AB_length.1 ∈ zT := zU5 168 (by decide +kernel) rfl
def m_AB_newCapacity : zM := (⟨"java/lang/AbstractStringBuilder", "newCapacity", "(I)I"⟩, prog_11_method_10_code, 6, (Option.some Jvm.ClassFile.FieldType.int))
set_option maxRecDepth 20000 in
theorem cb_AB_newCapacity : zCb m_AB_newCapacity 1 := ⟨zU5 34 (by rfl) rfl, ini_AB, pqn38, pqd6, by decide⟩
theorem in_AB_newCapacity : Cond.instanceMethod m_AB_newCapacity.1 ∈ zT := zU5 33 (by decide +kernel) rfl
theorem seSB_AB_newCapacity : Cond.selects "java/lang/StringBuilder" m_AB_newCapacity.1 m_AB_newCapacity.1 ∈ zT := zT_x (by decide +kernel) rfl
def m_AB_putStringAt : zM := (⟨"java/lang/AbstractStringBuilder", "putStringAt", "(ILjava/lang/String;)V"⟩, prog_11_method_73_code, 3, (Option.none : Option Jvm.ClassFile.FieldType))
set_option maxRecDepth 20000 in
theorem cb_AB_putStringAt : zCb m_AB_putStringAt 2 := ⟨zU5 216 (by rfl) rfl, ini_AB, pqn38, pqd45, by decide⟩
theorem in_AB_putStringAt : Cond.instanceMethod m_AB_putStringAt.1 ∈ zT := zU5 215 (by decide +kernel) rfl
theorem seSB_AB_putStringAt : Cond.selects "java/lang/StringBuilder" m_AB_putStringAt.1 m_AB_putStringAt.1 ∈ zT := zT_x (by decide +kernel) rfl
def m_EX_init : zM := (⟨"java/lang/Exception", "<init>", "(Ljava/lang/String;)V"⟩, prog_16_method_2_code, 2, (Option.none : Option Jvm.ClassFile.FieldType))
set_option maxRecDepth 20000 in
theorem cb_EX_init : zCb m_EX_init 1 := ⟨zU2 183 (by rfl) rfl, ini_EX, pqn46, pqd44, by decide⟩
theorem in_EX_init : Cond.instanceMethod m_EX_init.1 ∈ zT := zU2 182 (by decide +kernel) rfl
def m_IAE_init : zM := (⟨"java/lang/IllegalArgumentException", "<init>", "(Ljava/lang/String;)V"⟩, prog_17_method_2_code, 2, (Option.none : Option Jvm.ClassFile.FieldType))
set_option maxRecDepth 20000 in
theorem cb_IAE_init : zCb m_IAE_init 1 := ⟨zU2 217 (by rfl) rfl, ini_IAE, pqn47, pqd44, by decide⟩
theorem in_IAE_init : Cond.instanceMethod m_IAE_init.1 ∈ zT := zU2 216 (by decide +kernel) rfl
def m_ISE_init : zM := (⟨"java/lang/IllegalStateException", "<init>", "(Ljava/lang/String;)V"⟩, prog_18_method_2_code, 2, (Option.none : Option Jvm.ClassFile.FieldType))
set_option maxRecDepth 20000 in
theorem cb_ISE_init : zCb m_ISE_init 1 := ⟨zU2 238 (by rfl) rfl, ini_ISE, pqn48, pqd44, by decide⟩
theorem in_ISE_init : Cond.instanceMethod m_ISE_init.1 ∈ zT := zU2 237 (by decide +kernel) rfl
def m_IOE_init : zM := (⟨"java/lang/IndexOutOfBoundsException", "<init>", "(Ljava/lang/String;)V"⟩, prog_19_method_2_code, 2, (Option.none : Option Jvm.ClassFile.FieldType))
set_option maxRecDepth 20000 in
theorem cb_IOE_init : zCb m_IOE_init 1 := ⟨zU2 177 (by rfl) rfl, ini_IOE, pqn49, pqd44, by decide⟩
theorem in_IOE_init : Cond.instanceMethod m_IOE_init.1 ∈ zT := zU2 176 (by decide +kernel) rfl
def m_IN_bitCount : zM := (⟨"java/lang/Integer", "bitCount", "(I)I"⟩, prog_20_method_49_code, 1, (Option.some Jvm.ClassFile.FieldType.int))
set_option maxRecDepth 20000 in
theorem cb_IN_bitCount : zCb m_IN_bitCount 1 := ⟨zU1 210 (by rfl) rfl, ini_IN, pqn50, pqd6, by decide⟩
theorem st_IN_bitCount : Cond.static m_IN_bitCount.1 ∈ zT := zU1 209 (by decide +kernel) rfl
def m_IN_getChars : zM := (⟨"java/lang/Integer", "getChars", "(II[B)I"⟩, prog_20_method_12_code, 7, (Option.some Jvm.ClassFile.FieldType.int))
set_option maxRecDepth 20000 in
theorem cb_IN_getChars : zCb m_IN_getChars 3 := ⟨zU5 127 (by rfl) rfl, ini_IN, pqn50, pqd51, by decide⟩
theorem st_IN_getChars : Cond.static m_IN_getChars.1 ∈ zT := zU5 126 (by decide +kernel) rfl
def m_IN_stringSize : zM := (⟨"java/lang/Integer", "stringSize", "(I)I"⟩, prog_20_method_13_code, 4, (Option.some Jvm.ClassFile.FieldType.int))
set_option maxRecDepth 20000 in
theorem cb_IN_stringSize : zCb m_IN_stringSize 1 := ⟨zU5 124 (by rfl) rfl, ini_IN, pqn50, pqd6, by decide⟩
theorem st_IN_stringSize : Cond.static m_IN_stringSize.1 ∈ zT := zU5 123 (by decide +kernel) rfl
def m_MA_floorMod : zM := (⟨"java/lang/Math", "floorMod", "(II)I"⟩, prog_22_method_50_code, 3, (Option.some Jvm.ClassFile.FieldType.int))
set_option maxRecDepth 20000 in
theorem cb_MA_floorMod : zCb m_MA_floorMod 2 := ⟨zU4 0 (by rfl) rfl, ini_MA, pqn52, pqd2, by decide⟩
theorem st_MA_floorMod : Cond.static m_MA_floorMod.1 ∈ zT := zU3 239 (by decide +kernel) rfl
def m_MA_max : zM := (⟨"java/lang/Math", "max", "(II)I"⟩, prog_22_method_65_code, 2, (Option.some Jvm.ClassFile.FieldType.int))
set_option maxRecDepth 20000 in
theorem cb_MA_max : zCb m_MA_max 2 := ⟨zU5 40 (by rfl) rfl, ini_MA, pqn52, pqd2, by decide⟩
theorem st_MA_max : Cond.static m_MA_max.1 ∈ zT := zU5 39 (by decide +kernel) rfl
def m_MA_min : zM := (⟨"java/lang/Math", "min", "(II)I"⟩, prog_22_method_69_code, 2, (Option.some Jvm.ClassFile.FieldType.int))
set_option maxRecDepth 20000 in
theorem cb_MA_min : zCb m_MA_min 2 := ⟨zU5 58 (by rfl) rfl, ini_MA, pqn52, pqd2, by decide⟩
theorem st_MA_min : Cond.static m_MA_min.1 ∈ zT := zU5 57 (by decide +kernel) rfl
def m_OJ_init : zM := (⟨"java/lang/Object", "<init>", "()V"⟩, object_method_1_code, 1, (Option.none : Option Jvm.ClassFile.FieldType))
theorem in_OJ_init : Cond.instanceMethod m_OJ_init.1 ∈ zT := zU1 37 (by decide +kernel) rfl
def m_RX_init : zM := (⟨"java/lang/RuntimeException", "<init>", "(Ljava/lang/String;)V"⟩, prog_24_method_2_code, 2, (Option.none : Option Jvm.ClassFile.FieldType))
set_option maxRecDepth 20000 in
theorem cb_RX_init : zCb m_RX_init 1 := ⟨zU2 180 (by rfl) rfl, ini_RX, pqn53, pqd44, by decide⟩
theorem in_RX_init : Cond.instanceMethod m_RX_init.1 ∈ zT := zU2 179 (by decide +kernel) rfl
def m_ST_init1 : zM := (⟨"java/lang/String", "<init>", "(Ljava/lang/AbstractStringBuilder;Ljava/lang/Void;)V"⟩, prog_25_method_150_code, 5, (Option.none : Option Jvm.ClassFile.FieldType))
set_option maxRecDepth 20000 in
theorem cb_ST_init1 : zCb m_ST_init1 2 := ⟨zU5 160 (by rfl) rfl, ini_ST, pqn54, pqd55, by decide⟩
theorem in_ST_init1 : Cond.instanceMethod m_ST_init1.1 ∈ zT := zU5 159 (by decide +kernel) rfl
def m_ST_init2 : zM := (⟨"java/lang/String", "<init>", "(Ljava/lang/StringBuilder;)V"⟩, prog_25_method_53_code, 2, (Option.none : Option Jvm.ClassFile.FieldType))
set_option maxRecDepth 20000 in
theorem cb_ST_init2 : zCb m_ST_init2 1 := ⟨zU5 157 (by rfl) rfl, ini_ST, pqn54, pqd56, by decide⟩
theorem in_ST_init2 : Cond.instanceMethod m_ST_init2.1 ∈ zT := zU5 156 (by decide +kernel) rfl
def m_ST_checkBoundsBeginEnd : zM := (⟨"java/lang/String", "checkBoundsBeginEnd", "(III)V"⟩, prog_25_method_158_code, 3, (Option.none : Option Jvm.ClassFile.FieldType))
set_option maxRecDepth 20000 in
theorem cb_ST_checkBoundsBeginEnd : zCb m_ST_checkBoundsBeginEnd 3 := ⟨zU5 140 (by rfl) rfl, ini_ST, pqn54, pqd20, by decide⟩
theorem st_ST_checkBoundsBeginEnd : Cond.static m_ST_checkBoundsBeginEnd.1 ∈ zT := zU5 139 (by decide +kernel) rfl
def m_ST_checkBoundsOffCount : zM := (⟨"java/lang/String", "checkBoundsOffCount", "(III)I"⟩, prog_25_method_157_code, 3, (Option.some Jvm.ClassFile.FieldType.int))
set_option maxRecDepth 20000 in
theorem cb_ST_checkBoundsOffCount : zCb m_ST_checkBoundsOffCount 3 := ⟨zU5 88 (by rfl) rfl, ini_ST, pqn54, pqd3, by decide⟩
theorem st_ST_checkBoundsOffCount : Cond.static m_ST_checkBoundsOffCount.1 ∈ zT := zU5 87 (by decide +kernel) rfl
def m_ST_checkIndex : zM := (⟨"java/lang/String", "checkIndex", "(II)V"⟩, prog_25_method_155_code, 2, (Option.none : Option Jvm.ClassFile.FieldType))
set_option maxRecDepth 20000 in
theorem cb_ST_checkIndex : zCb m_ST_checkIndex 2 := ⟨zU5 111 (by rfl) rfl, ini_ST, pqn54, pqd9, by decide⟩
theorem st_ST_checkIndex : Cond.static m_ST_checkIndex.1 ∈ zT := zU5 110 (by decide +kernel) rfl
def m_ST_coder : zM := (⟨"java/lang/String", "coder", "()B"⟩, prog_25_method_152_code, 1, (Option.some Jvm.ClassFile.FieldType.byte))
set_option maxRecDepth 20000 in
theorem cb_ST_coder : zCb m_ST_coder 0 := ⟨zU5 211 (by rfl) rfl, ini_ST, pqn54, pqd57, by decide⟩
theorem in_ST_coder : Cond.instanceMethod m_ST_coder.1 ∈ zT := zU5 209 (by decide +kernel) rfl
theorem se_ST_coder : Cond.selects "java/lang/String" m_ST_coder.1 m_ST_coder.1 ∈ zT := zU5 210 (by decide +kernel) rfl
def m_ST_getBytes : zM := (⟨"java/lang/String", "getBytes", "([BIB)V"⟩, prog_25_method_147_code, 4, (Option.none : Option Jvm.ClassFile.FieldType))
set_option maxRecDepth 20000 in
theorem cb_ST_getBytes : zCb m_ST_getBytes 3 := ⟨zU5 225 (by rfl) rfl, ini_ST, pqn54, pqd58, by decide⟩
theorem in_ST_getBytes : Cond.instanceMethod m_ST_getBytes.1 ∈ zT := zU5 223 (by decide +kernel) rfl
theorem se_ST_getBytes : Cond.selects "java/lang/String" m_ST_getBytes.1 m_ST_getBytes.1 ∈ zT := zU5 224 (by decide +kernel) rfl
def m_ST_length : zM := (⟨"java/lang/String", "length", "()I"⟩, prog_25_method_54_code, 1, (Option.some Jvm.ClassFile.FieldType.int))
set_option maxRecDepth 20000 in
theorem cb_ST_length : zCb m_ST_length 0 := ⟨zU5 207 (by rfl) rfl, ini_ST, pqn54, pqd13, by decide⟩
theorem in_ST_length : Cond.instanceMethod m_ST_length.1 ∈ zT := zU5 205 (by decide +kernel) rfl
theorem se_ST_length : Cond.selects "java/lang/String" m_ST_length.1 m_ST_length.1 ∈ zT := zU5 206 (by decide +kernel) rfl
def m_SB_init : zM := (⟨"java/lang/StringBuilder", "<init>", "()V"⟩, prog_26_method_1_code, 1, (Option.none : Option Jvm.ClassFile.FieldType))
set_option maxRecDepth 20000 in
theorem cb_SB_init : zCb m_SB_init 0 := ⟨zU4 233 (by rfl) rfl, ini_SB, pqn59, pqd1, by decide⟩
theorem in_SB_init : Cond.instanceMethod m_SB_init.1 ∈ zT := zU4 232 (by decide +kernel) rfl
def m_SB_append1 : zM := (⟨"java/lang/StringBuilder", "append", "(C)Ljava/lang/StringBuilder;"⟩, prog_26_method_14_code, 2, (Option.some (Jvm.ClassFile.FieldType.object "java/lang/StringBuilder")))
set_option maxRecDepth 20000 in
theorem cb_SB_append1 : zCb m_SB_append1 1 := ⟨zU5 23 (by rfl) rfl, ini_SB, pqn59, pqd60, by decide⟩
theorem in_SB_append1 : Cond.instanceMethod m_SB_append1.1 ∈ zT := zU5 21 (by decide +kernel) rfl
theorem se_SB_append1 : Cond.selects "java/lang/StringBuilder" m_SB_append1.1 m_SB_append1.1 ∈ zT := zU5 22 (by decide +kernel) rfl
def m_SB_append2 : zM := (⟨"java/lang/StringBuilder", "append", "(I)Ljava/lang/StringBuilder;"⟩, prog_26_method_15_code, 2, (Option.some (Jvm.ClassFile.FieldType.object "java/lang/StringBuilder")))
set_option maxRecDepth 20000 in
theorem cb_SB_append2 : zCb m_SB_append2 1 := ⟨zU5 118 (by rfl) rfl, ini_SB, pqn59, pqd61, by decide⟩
theorem in_SB_append2 : Cond.instanceMethod m_SB_append2.1 ∈ zT := zU5 116 (by decide +kernel) rfl
theorem se_SB_append2 : Cond.selects "java/lang/StringBuilder" m_SB_append2.1 m_SB_append2.1 ∈ zT := zU5 117 (by decide +kernel) rfl
def m_SB_append3 : zM := (⟨"java/lang/StringBuilder", "append", "(Ljava/lang/String;)Ljava/lang/StringBuilder;"⟩, prog_26_method_7_code, 2, (Option.some (Jvm.ClassFile.FieldType.object "java/lang/StringBuilder")))
set_option maxRecDepth 20000 in
theorem cb_SB_append3 : zCb m_SB_append3 1 := ⟨zU5 193 (by rfl) rfl, ini_SB, pqn59, pqd62, by decide⟩
theorem in_SB_append3 : Cond.instanceMethod m_SB_append3.1 ∈ zT := zU5 191 (by decide +kernel) rfl
theorem se_SB_append3 : Cond.selects "java/lang/StringBuilder" m_SB_append3.1 m_SB_append3.1 ∈ zT := zU5 192 (by decide +kernel) rfl
def m_SB_length : zM := (⟨"java/lang/StringBuilder", "length", "()I"⟩, prog_26_method_93_code, 1, (Option.some Jvm.ClassFile.FieldType.int))
set_option maxRecDepth 20000 in
theorem cb_SB_length : zCb m_SB_length 0 := ⟨zU5 172 (by rfl) rfl, ini_SB, pqn59, pqd13, by decide⟩
theorem in_SB_length : Cond.instanceMethod m_SB_length.1 ∈ zT := zU5 171 (by decide +kernel) rfl
def m_SB_toString : zM := (⟨"java/lang/StringBuilder", "toString", "()Ljava/lang/String;"⟩, prog_26_method_42_code, 1, (Option.some (Jvm.ClassFile.FieldType.object "java/lang/String")))
set_option maxRecDepth 20000 in
theorem cb_SB_toString : zCb m_SB_toString 0 := ⟨zU5 152 (by rfl) rfl, ini_SB, pqn59, pqd63, by decide⟩
theorem in_SB_toString : Cond.instanceMethod m_SB_toString.1 ∈ zT := zU5 150 (by decide +kernel) rfl
theorem se_SB_toString : Cond.selects "java/lang/StringBuilder" m_SB_toString.1 m_SB_toString.1 ∈ zT := zU5 151 (by decide +kernel) rfl
def m_L1_canEncode : zM := (⟨"java/lang/StringLatin1", "canEncode", "(C)Z"⟩, prog_27_method_3_code, 1, (Option.some Jvm.ClassFile.FieldType.boolean))
set_option maxRecDepth 20000 in
theorem cb_L1_canEncode : zCb m_L1_canEncode 1 := ⟨zU5 69 (by rfl) rfl, ini_L1, pqn64, pqd65, by decide⟩
theorem st_L1_canEncode : Cond.static m_L1_canEncode.1 ∈ zT := zU5 68 (by decide +kernel) rfl
def m_L1_inflate : zM := (⟨"java/lang/StringLatin1", "inflate", "([BI[BII)V"⟩, prog_27_method_50_code, 5, (Option.none : Option Jvm.ClassFile.FieldType))
set_option maxRecDepth 20000 in
theorem cb_L1_inflate : zCb m_L1_inflate 5 := ⟨zU5 76 (by rfl) rfl, ini_L1, pqn64, pqd66, by decide⟩
theorem st_L1_inflate : Cond.static m_L1_inflate.1 ∈ zT := zU5 75 (by decide +kernel) rfl
def m_U6_checkBoundsBeginEnd : zM := (⟨"java/lang/StringUTF16", "checkBoundsBeginEnd", "(II[B)V"⟩, prog_28_method_93_code, 3, (Option.none : Option Jvm.ClassFile.FieldType))
set_option maxRecDepth 20000 in
theorem cb_U6_checkBoundsBeginEnd : zCb m_U6_checkBoundsBeginEnd 3 := ⟨zU5 137 (by rfl) rfl, ini_U6, pqn67, pqd68, by decide⟩
theorem st_U6_checkBoundsBeginEnd : Cond.static m_U6_checkBoundsBeginEnd.1 ∈ zT := zU5 136 (by decide +kernel) rfl
def m_U6_checkBoundsOffCount : zM := (⟨"java/lang/StringUTF16", "checkBoundsOffCount", "(II[B)V"⟩, prog_28_method_94_code, 3, (Option.none : Option Jvm.ClassFile.FieldType))
set_option maxRecDepth 20000 in
theorem cb_U6_checkBoundsOffCount : zCb m_U6_checkBoundsOffCount 3 := ⟨zU5 82 (by rfl) rfl, ini_U6, pqn67, pqd68, by decide⟩
theorem st_U6_checkBoundsOffCount : Cond.static m_U6_checkBoundsOffCount.1 ∈ zT := zU5 81 (by decide +kernel) rfl
def m_U6_checkIndex : zM := (⟨"java/lang/StringUTF16", "checkIndex", "(I[B)V"⟩, prog_28_method_91_code, 2, (Option.none : Option Jvm.ClassFile.FieldType))
set_option maxRecDepth 20000 in
theorem cb_U6_checkIndex : zCb m_U6_checkIndex 2 := ⟨zU5 108 (by rfl) rfl, ini_U6, pqn67, pqd69, by decide⟩
theorem st_U6_checkIndex : Cond.static m_U6_checkIndex.1 ∈ zT := zU5 107 (by decide +kernel) rfl
def m_U6_coderFromArrayLen : zM := (⟨"java/lang/StringUTF16", "coderFromArrayLen", "([BI)B"⟩, prog_28_method_15_code, 2, (Option.some Jvm.ClassFile.FieldType.byte))
set_option maxRecDepth 20000 in
theorem cb_U6_coderFromArrayLen : zCb m_U6_coderFromArrayLen 2 := ⟨zU6 2 (by rfl) rfl, ini_U6, pqn67, pqd70, by decide⟩
theorem st_U6_coderFromArrayLen : Cond.static m_U6_coderFromArrayLen.1 ∈ zT := zU6 1 (by decide +kernel) rfl
def m_U6_compress1 : zM := (⟨"java/lang/StringUTF16", "compress", "([BII)[B"⟩, prog_28_method_17_code, 6, (Option.some (Jvm.ClassFile.FieldType.array Jvm.ClassFile.FieldType.byte)))
set_option maxRecDepth 20000 in
theorem cb_U6_compress1 : zCb m_U6_compress1 3 := ⟨zU5 232 (by rfl) rfl, ini_U6, pqn67, pqd71, by decide⟩
theorem st_U6_compress1 : Cond.static m_U6_compress1.1 ∈ zT := zU5 231 (by decide +kernel) rfl
def m_U6_compress2 : zM := (⟨"java/lang/StringUTF16", "compress", "([BI[BII)I"⟩, prog_28_method_22_code, 7, (Option.some Jvm.ClassFile.FieldType.int))
set_option maxRecDepth 20000 in
theorem cb_U6_compress2 : zCb m_U6_compress2 5 := ⟨zU5 235 (by rfl) rfl, ini_U6, pqn67, pqd72, by decide⟩
theorem st_U6_compress2 : Cond.static m_U6_compress2.1 ∈ zT := zU5 234 (by decide +kernel) rfl
def m_U6_getChar : zM := (⟨"java/lang/StringUTF16", "getChar", "([BI)C"⟩, prog_28_method_5_code, 2, (Option.some Jvm.ClassFile.FieldType.char))
set_option maxRecDepth 20000 in
theorem cb_U6_getChar : zCb m_U6_getChar 2 := ⟨zU5 238 (by rfl) rfl, ini_U6, pqn67, pqd73, by decide⟩
theorem st_U6_getChar : Cond.static m_U6_getChar.1 ∈ zT := zU5 237 (by decide +kernel) rfl
def m_U6_getChars1 : zM := (⟨"java/lang/StringUTF16", "getChars", "(III[B)I"⟩, prog_28_method_77_code, 5, (Option.some Jvm.ClassFile.FieldType.int))
set_option maxRecDepth 20000 in
theorem cb_U6_getChars1 : zCb m_U6_getChars1 4 := ⟨zU5 134 (by rfl) rfl, ini_U6, pqn67, pqd74, by decide⟩
theorem st_U6_getChars1 : Cond.static m_U6_getChars1.1 ∈ zT := zU5 133 (by decide +kernel) rfl
def m_U6_getChars2 : zM := (⟨"java/lang/StringUTF16", "getChars", "(II[B)I"⟩, prog_28_method_89_code, 7, (Option.some Jvm.ClassFile.FieldType.int))
set_option maxRecDepth 20000 in
theorem cb_U6_getChars2 : zCb m_U6_getChars2 3 := ⟨zU5 146 (by rfl) rfl, ini_U6, pqn67, pqd51, by decide⟩
theorem st_U6_getChars2 : Cond.static m_U6_getChars2.1 ∈ zT := zU5 145 (by decide +kernel) rfl
def m_U6_inflate : zM := (⟨"java/lang/StringUTF16", "inflate", "([BI[BII)V"⟩, prog_28_method_86_code, 6, (Option.none : Option Jvm.ClassFile.FieldType))
set_option maxRecDepth 20000 in
theorem cb_U6_inflate : zCb m_U6_inflate 5 := ⟨zU5 79 (by rfl) rfl, ini_U6, pqn67, pqd66, by decide⟩
theorem st_U6_inflate : Cond.static m_U6_inflate.1 ∈ zT := zU5 78 (by decide +kernel) rfl
def m_U6_length : zM := (⟨"java/lang/StringUTF16", "length", "([B)I"⟩, prog_28_method_6_code, 1, (Option.some Jvm.ClassFile.FieldType.int))
set_option maxRecDepth 20000 in
theorem cb_U6_length : zCb m_U6_length 1 := ⟨zU5 85 (by rfl) rfl, ini_U6, pqn67, pqd75, by decide⟩
theorem st_U6_length : Cond.static m_U6_length.1 ∈ zT := zU5 84 (by decide +kernel) rfl
def m_U6_newBytesFor : zM := (⟨"java/lang/StringUTF16", "newBytesFor", "(I)[B"⟩, prog_28_method_2_code, 1, (Option.some (Jvm.ClassFile.FieldType.array Jvm.ClassFile.FieldType.byte)))
set_option maxRecDepth 20000 in
theorem cb_U6_newBytesFor : zCb m_U6_newBytesFor 1 := ⟨zU5 2 (by rfl) rfl, ini_U6, pqn67, pqd76, by decide⟩
theorem st_U6_newBytesFor : Cond.static m_U6_newBytesFor.1 ∈ zT := zU5 1 (by decide +kernel) rfl
def m_U6_newBytesLength : zM := (⟨"java/lang/StringUTF16", "newBytesLength", "(I)I"⟩, prog_28_method_3_code, 1, (Option.some Jvm.ClassFile.FieldType.int))
set_option maxRecDepth 20000 in
theorem cb_U6_newBytesLength : zCb m_U6_newBytesLength 1 := ⟨zU5 5 (by rfl) rfl, ini_U6, pqn67, pqd6, by decide⟩
theorem st_U6_newBytesLength : Cond.static m_U6_newBytesLength.1 ∈ zT := zU5 4 (by decide +kernel) rfl
def m_U6_putChar : zM := (⟨"java/lang/StringUTF16", "putChar", "([BII)V"⟩, prog_28_method_4_code, 3, (Option.none : Option Jvm.ClassFile.FieldType))
set_option maxRecDepth 20000 in
theorem cb_U6_putChar : zCb m_U6_putChar 3 := ⟨zU5 96 (by rfl) rfl, ini_U6, pqn67, pqd77, by decide⟩
theorem st_U6_putChar : Cond.static m_U6_putChar.1 ∈ zT := zU5 95 (by decide +kernel) rfl
def m_U6_putCharSB : zM := (⟨"java/lang/StringUTF16", "putCharSB", "([BII)V"⟩, prog_28_method_71_code, 3, (Option.none : Option Jvm.ClassFile.FieldType))
set_option maxRecDepth 20000 in
theorem cb_U6_putCharSB : zCb m_U6_putCharSB 3 := ⟨zU5 105 (by rfl) rfl, ini_U6, pqn67, pqd77, by decide⟩
theorem st_U6_putCharSB : Cond.static m_U6_putCharSB.1 ∈ zT := zU5 104 (by decide +kernel) rfl
def m_U6_putCharsAt : zM := (⟨"java/lang/StringUTF16", "putCharsAt", "([BICCCC)I"⟩, prog_28_method_81_code, 7, (Option.some Jvm.ClassFile.FieldType.int))
set_option maxRecDepth 20000 in
theorem cb_U6_putCharsAt : zCb m_U6_putCharsAt 6 := ⟨zU5 203 (by rfl) rfl, ini_U6, pqn67, pqd78, by decide⟩
theorem st_U6_putCharsAt : Cond.static m_U6_putCharsAt.1 ∈ zT := zU5 202 (by decide +kernel) rfl
def m_TH_init1 : zM := (⟨"java/lang/Throwable", "<init>", "()V"⟩, prog_30_method_1_code, 1, (Option.none : Option Jvm.ClassFile.FieldType))
set_option maxRecDepth 20000 in
theorem cb_TH_init1 : zCb m_TH_init1 0 := ⟨zU2 157 (by rfl) rfl, ini_TH, pqn79, pqd1, by decide⟩
theorem in_TH_init1 : Cond.instanceMethod m_TH_init1.1 ∈ zT := zU2 156 (by decide +kernel) rfl
def m_TH_init2 : zM := (⟨"java/lang/Throwable", "<init>", "(Ljava/lang/String;)V"⟩, prog_30_method_2_code, 2, (Option.none : Option Jvm.ClassFile.FieldType))
set_option maxRecDepth 20000 in
theorem cb_TH_init2 : zCb m_TH_init2 1 := ⟨zU2 186 (by rfl) rfl, ini_TH, pqn79, pqd44, by decide⟩
theorem in_TH_init2 : Cond.instanceMethod m_TH_init2.1 ∈ zT := zU2 185 (by decide +kernel) rfl
def m_AC_init : zM := (⟨"java/util/AbstractCollection", "<init>", "()V"⟩, prog_33_method_1_code, 1, (Option.none : Option Jvm.ClassFile.FieldType))
set_option maxRecDepth 20000 in
theorem cb_AC_init : zCb m_AC_init 0 := ⟨zU6 55 (by rfl) rfl, ini_AC, pqn80, pqd1, by decide⟩
theorem in_AC_init : Cond.instanceMethod m_AC_init.1 ∈ zT := zU6 54 (by decide +kernel) rfl
def m_AY_init : zM := (⟨"java/util/AbstractList", "<init>", "()V"⟩, prog_34_method_1_code, 1, (Option.none : Option Jvm.ClassFile.FieldType))
set_option maxRecDepth 20000 in
theorem cb_AY_init : zCb m_AY_init 0 := ⟨zU6 52 (by rfl) rfl, ini_AY, pqn81, pqd1, by decide⟩
theorem in_AY_init : Cond.instanceMethod m_AY_init.1 ∈ zT := zU6 51 (by decide +kernel) rfl
def m_AL_init : zM := (⟨"java/util/ArrayList", "<init>", "()V"⟩, prog_35_method_2_code, 1, (Option.none : Option Jvm.ClassFile.FieldType))
set_option maxRecDepth 20000 in
theorem cb_AL_init : zCb m_AL_init 0 := ⟨zU6 49 (by rfl) rfl, ini_AL, pqn82, pqd1, by decide⟩
theorem in_AL_init : Cond.instanceMethod m_AL_init.1 ∈ zT := zU6 48 (by decide +kernel) rfl
def m_AL_add1 : zM := (⟨"java/util/ArrayList", "add", "(ILjava/lang/Object;)V"⟩, prog_35_method_26_code, 5, (Option.none : Option Jvm.ClassFile.FieldType))
set_option maxRecDepth 20000 in
theorem cb_AL_add1 : zCb m_AL_add1 2 := ⟨zU6 219 (by rfl) rfl, ini_AL, pqn82, pqd83, by decide⟩
theorem in_AL_add1 : Cond.instanceMethod m_AL_add1.1 ∈ zT := zU6 217 (by decide +kernel) rfl
theorem se_AL_add1 : Cond.selects "java/util/ArrayList" m_AL_add1.1 m_AL_add1.1 ∈ zT := zU6 218 (by decide +kernel) rfl
def m_AL_add2 : zM := (⟨"java/util/ArrayList", "add", "(Ljava/lang/Object;)Z"⟩, prog_35_method_25_code, 2, (Option.some Jvm.ClassFile.FieldType.boolean))
set_option maxRecDepth 20000 in
theorem cb_AL_add2 : zCb m_AL_add2 1 := ⟨zU6 78 (by rfl) rfl, ini_AL, pqn82, pqd84, by decide⟩
theorem in_AL_add2 : Cond.instanceMethod m_AL_add2.1 ∈ zT := zU6 76 (by decide +kernel) rfl
theorem se_AL_add2 : Cond.selects "java/util/ArrayList" m_AL_add2.1 m_AL_add2.1 ∈ zT := zU6 77 (by decide +kernel) rfl
def m_AL_add3 : zM := (⟨"java/util/ArrayList", "add", "(Ljava/lang/Object;[Ljava/lang/Object;I)V"⟩, prog_35_method_24_code, 4, (Option.none : Option Jvm.ClassFile.FieldType))
set_option maxRecDepth 20000 in
theorem cb_AL_add3 : zCb m_AL_add3 3 := ⟨zU6 82 (by rfl) rfl, ini_AL, pqn82, pqd85, by decide⟩
theorem in_AL_add3 : Cond.instanceMethod m_AL_add3.1 ∈ zT := zU6 81 (by decide +kernel) rfl
theorem se_AL_add3 : Cond.selects "java/util/ArrayList" m_AL_add3.1 m_AL_add3.1 ∈ zT := zT_s (⟨"java/util/ArrayList", "add", "(Ljava/lang/Object;[Ljava/lang/Object;I)V"⟩, 3) (by decide +kernel) rfl rfl
def m_AL_elementData : zM := (⟨"java/util/ArrayList", "elementData", "(I)Ljava/lang/Object;"⟩, prog_35_method_18_code, 2, (Option.some (Jvm.ClassFile.FieldType.object "java/lang/Object")))
set_option maxRecDepth 20000 in
theorem cb_AL_elementData : zCb m_AL_elementData 1 := ⟨zU6 195 (by rfl) rfl, ini_AL, pqn82, pqd86, by decide⟩
theorem in_AL_elementData : Cond.instanceMethod m_AL_elementData.1 ∈ zT := zU6 193 (by decide +kernel) rfl
theorem se_AL_elementData : Cond.selects "java/util/ArrayList" m_AL_elementData.1 m_AL_elementData.1 ∈ zT := zU6 194 (by decide +kernel) rfl
def m_AL_fastRemove : zM := (⟨"java/util/ArrayList", "fastRemove", "([Ljava/lang/Object;I)V"⟩, prog_35_method_39_code, 4, (Option.none : Option Jvm.ClassFile.FieldType))
set_option maxRecDepth 20000 in
theorem cb_AL_fastRemove : zCb m_AL_fastRemove 2 := ⟨zU7 74 (by rfl) rfl, ini_AL, pqn82, pqd87, by decide⟩
theorem in_AL_fastRemove : Cond.instanceMethod m_AL_fastRemove.1 ∈ zT := zU7 73 (by decide +kernel) rfl
theorem se_AL_fastRemove : Cond.selects "java/util/ArrayList" m_AL_fastRemove.1 m_AL_fastRemove.1 ∈ zT := zT_s (⟨"java/util/ArrayList", "fastRemove", "([Ljava/lang/Object;I)V"⟩, 3) (by decide +kernel) rfl rfl
def m_AL_get : zM := (⟨"java/util/ArrayList", "get", "(I)Ljava/lang/Object;"⟩, prog_35_method_20_code, 2, (Option.some (Jvm.ClassFile.FieldType.object "java/lang/Object")))
set_option maxRecDepth 20000 in
theorem cb_AL_get : zCb m_AL_get 1 := ⟨zU6 187 (by rfl) rfl, ini_AL, pqn82, pqd86, by decide⟩
theorem in_AL_get : Cond.instanceMethod m_AL_get.1 ∈ zT := zU6 185 (by decide +kernel) rfl
theorem se_AL_get : Cond.selects "java/util/ArrayList" m_AL_get.1 m_AL_get.1 ∈ zT := zU6 186 (by decide +kernel) rfl
def m_AL_grow1 : zM := (⟨"java/util/ArrayList", "grow", "()[Ljava/lang/Object;"⟩, prog_35_method_7_code, 1, (Option.some (Jvm.ClassFile.FieldType.array (Jvm.ClassFile.FieldType.object "java/lang/Object"))))
set_option maxRecDepth 20000 in
theorem cb_AL_grow1 : zCb m_AL_grow1 0 := ⟨zU6 86 (by rfl) rfl, ini_AL, pqn82, pqd88, by decide⟩
theorem in_AL_grow1 : Cond.instanceMethod m_AL_grow1.1 ∈ zT := zU6 85 (by decide +kernel) rfl
theorem se_AL_grow1 : Cond.selects "java/util/ArrayList" m_AL_grow1.1 m_AL_grow1.1 ∈ zT := zT_s (⟨"java/util/ArrayList", "grow", "()[Ljava/lang/Object;"⟩, 3) (by decide +kernel) rfl rfl
def m_AL_grow2 : zM := (⟨"java/util/ArrayList", "grow", "(I)[Ljava/lang/Object;"⟩, prog_35_method_6_code, 4, (Option.some (Jvm.ClassFile.FieldType.array (Jvm.ClassFile.FieldType.object "java/lang/Object"))))
set_option maxRecDepth 20000 in
theorem cb_AL_grow2 : zCb m_AL_grow2 1 := ⟨zU6 90 (by rfl) rfl, ini_AL, pqn82, pqd89, by decide⟩
theorem in_AL_grow2 : Cond.instanceMethod m_AL_grow2.1 ∈ zT := zU6 89 (by decide +kernel) rfl
theorem se_AL_grow2 : Cond.selects "java/util/ArrayList" m_AL_grow2.1 m_AL_grow2.1 ∈ zT := zT_s (⟨"java/util/ArrayList", "grow", "(I)[Ljava/lang/Object;"⟩, 3) (by decide +kernel) rfl rfl
def m_AL_outOfBoundsMsg : zM := (⟨"java/util/ArrayList", "outOfBoundsMsg", "(I)Ljava/lang/String;"⟩, prog_35_method_46_code, 2, (Option.some (Jvm.ClassFile.FieldType.object "java/lang/String")))
set_option maxRecDepth 20000 in
theorem cb_AL_outOfBoundsMsg : zCb m_AL_outOfBoundsMsg 1 := ⟨zU6 228 (by rfl) rfl, ini_AL, pqn82, pqd18, by decide⟩
theorem in_AL_outOfBoundsMsg : Cond.instanceMethod m_AL_outOfBoundsMsg.1 ∈ zT := zU6 227 (by decide +kernel) rfl
theorem se_AL_outOfBoundsMsg : Cond.selects "java/util/ArrayList" m_AL_outOfBoundsMsg.1 m_AL_outOfBoundsMsg.1 ∈ zT := zT_s (⟨"java/util/ArrayList", "outOfBoundsMsg", "(I)Ljava/lang/String;"⟩, 3) (by decide +kernel) rfl rfl
def m_AL_rangeCheckForAdd : zM := (⟨"java/util/ArrayList", "rangeCheckForAdd", "(I)V"⟩, prog_35_method_45_code, 2, (Option.none : Option Jvm.ClassFile.FieldType))
set_option maxRecDepth 20000 in
theorem cb_AL_rangeCheckForAdd : zCb m_AL_rangeCheckForAdd 1 := ⟨zU6 223 (by rfl) rfl, ini_AL, pqn82, pqd17, by decide⟩
theorem in_AL_rangeCheckForAdd : Cond.instanceMethod m_AL_rangeCheckForAdd.1 ∈ zT := zU6 222 (by decide +kernel) rfl
theorem se_AL_rangeCheckForAdd : Cond.selects "java/util/ArrayList" m_AL_rangeCheckForAdd.1 m_AL_rangeCheckForAdd.1 ∈ zT := zT_s (⟨"java/util/ArrayList", "rangeCheckForAdd", "(I)V"⟩, 3) (by decide +kernel) rfl rfl
def m_AL_remove : zM := (⟨"java/util/ArrayList", "remove", "(I)Ljava/lang/Object;"⟩, prog_35_method_29_code, 4, (Option.some (Jvm.ClassFile.FieldType.object "java/lang/Object")))
set_option maxRecDepth 20000 in
theorem cb_AL_remove : zCb m_AL_remove 1 := ⟨zU7 70 (by rfl) rfl, ini_AL, pqn82, pqd86, by decide⟩
theorem in_AL_remove : Cond.instanceMethod m_AL_remove.1 ∈ zT := zU7 68 (by decide +kernel) rfl
theorem se_AL_remove : Cond.selects "java/util/ArrayList" m_AL_remove.1 m_AL_remove.1 ∈ zT := zU7 69 (by decide +kernel) rfl
def m_AL_set : zM := (⟨"java/util/ArrayList", "set", "(ILjava/lang/Object;)Ljava/lang/Object;"⟩, prog_35_method_23_code, 4, (Option.some (Jvm.ClassFile.FieldType.object "java/lang/Object")))
set_option maxRecDepth 20000 in
theorem cb_AL_set : zCb m_AL_set 2 := ⟨zU7 58 (by rfl) rfl, ini_AL, pqn82, pqd90, by decide⟩
theorem in_AL_set : Cond.instanceMethod m_AL_set.1 ∈ zT := zU7 56 (by decide +kernel) rfl
theorem se_AL_set : Cond.selects "java/util/ArrayList" m_AL_set.1 m_AL_set.1 ∈ zT := zU7 57 (by decide +kernel) rfl
def m_AL_size : zM := (⟨"java/util/ArrayList", "size", "()I"⟩, prog_35_method_8_code, 1, (Option.some Jvm.ClassFile.FieldType.int))
set_option maxRecDepth 20000 in
theorem cb_AL_size : zCb m_AL_size 0 := ⟨zU6 199 (by rfl) rfl, ini_AL, pqn82, pqd13, by decide⟩
theorem in_AL_size : Cond.instanceMethod m_AL_size.1 ∈ zT := zU6 197 (by decide +kernel) rfl
theorem se_AL_size : Cond.selects "java/util/ArrayList" m_AL_size.1 m_AL_size.1 ∈ zT := zU6 198 (by decide +kernel) rfl
def m_AR_checkLength : zM := (⟨"java/util/Arrays", "checkLength", "(II)V"⟩, prog_36_method_131_code, 2, (Option.none : Option Jvm.ClassFile.FieldType))
set_option maxRecDepth 20000 in
theorem cb_AR_checkLength : zCb m_AR_checkLength 2 := ⟨zU5 184 (by rfl) rfl, ini_AR, pqn91, pqd9, by decide⟩
theorem st_AR_checkLength : Cond.static m_AR_checkLength.1 ∈ zT := zU5 183 (by decide +kernel) rfl
def m_AR_copyOf1 : zM := (⟨"java/util/Arrays", "copyOf", "([BI)[B"⟩, prog_36_method_121_code, 3, (Option.some (Jvm.ClassFile.FieldType.array Jvm.ClassFile.FieldType.byte)))
set_option maxRecDepth 20000 in
theorem cb_AR_copyOf1 : zCb m_AR_copyOf1 2 := ⟨zU5 48 (by rfl) rfl, ini_AR, pqn91, pqd92, by decide⟩
theorem st_AR_copyOf1 : Cond.static m_AR_copyOf1.1 ∈ zT := zU5 47 (by decide +kernel) rfl
def m_AR_copyOf2 : zM := (⟨"java/util/Arrays", "copyOf", "([Ljava/lang/Object;I)[Ljava/lang/Object;"⟩, prog_36_method_119_code, 2, (Option.some (Jvm.ClassFile.FieldType.array (Jvm.ClassFile.FieldType.object "java/lang/Object"))))
set_option maxRecDepth 20000 in
theorem cb_AR_copyOf2 : zCb m_AR_copyOf2 2 := ⟨zU6 94 (by rfl) rfl, ini_AR, pqn91, pqd93, by decide⟩
theorem st_AR_copyOf2 : Cond.static m_AR_copyOf2.1 ∈ zT := zU6 93 (by decide +kernel) rfl
def m_AR_copyOf3 : zM := (⟨"java/util/Arrays", "copyOf", "([Ljava/lang/Object;ILjava/lang/Class;)[Ljava/lang/Object;"⟩, prog_36_method_120_code, 4, (Option.some (Jvm.ClassFile.FieldType.array (Jvm.ClassFile.FieldType.object "java/lang/Object"))))
set_option maxRecDepth 20000 in
theorem cb_AR_copyOf3 : zCb m_AR_copyOf3 3 := ⟨zU6 115 (by rfl) rfl, ini_AR, pqn91, pqd94, by decide⟩
theorem st_AR_copyOf3 : Cond.static m_AR_copyOf3.1 ∈ zT := zU6 114 (by decide +kernel) rfl
def m_AR_copyOfRange : zM := (⟨"java/util/Arrays", "copyOfRange", "([BII)[B"⟩, prog_36_method_132_code, 3, (Option.some (Jvm.ClassFile.FieldType.array Jvm.ClassFile.FieldType.byte)))
set_option maxRecDepth 20000 in
theorem cb_AR_copyOfRange : zCb m_AR_copyOfRange 3 := ⟨zU5 178 (by rfl) rfl, ini_AR, pqn91, pqd71, by decide⟩
theorem st_AR_copyOfRange : Cond.static m_AR_copyOfRange.1 ∈ zT := zU5 177 (by decide +kernel) rfl
def m_AR_copyOfRangeByte : zM := (⟨"java/util/Arrays", "copyOfRangeByte", "([BII)[B"⟩, prog_36_method_133_code, 5, (Option.some (Jvm.ClassFile.FieldType.array Jvm.ClassFile.FieldType.byte)))
set_option maxRecDepth 20000 in
theorem cb_AR_copyOfRangeByte : zCb m_AR_copyOfRangeByte 3 := ⟨zU5 181 (by rfl) rfl, ini_AR, pqn91, pqd71, by decide⟩
theorem st_AR_copyOfRangeByte : Cond.static m_AR_copyOfRangeByte.1 ∈ zT := zU5 180 (by decide +kernel) rfl
def m_OB_checkIndex : zM := (⟨"java/util/Objects", "checkIndex", "(II)I"⟩, prog_39_method_17_code, 2, (Option.some Jvm.ClassFile.FieldType.int))
set_option maxRecDepth 20000 in
theorem cb_OB_checkIndex : zCb m_OB_checkIndex 2 := ⟨zU6 190 (by rfl) rfl, ini_OB, pqn95, pqd2, by decide⟩
theorem st_OB_checkIndex : Cond.static m_OB_checkIndex.1 ∈ zT := zU6 189 (by decide +kernel) rfl
def m_AS_hugeLength : zM := (⟨"jdk/internal/util/ArraysSupport", "hugeLength", "(II)I"⟩, prog_42_method_28_code, 3, (Option.some Jvm.ClassFile.FieldType.int))
set_option maxRecDepth 20000 in
theorem cb_AS_hugeLength : zCb m_AS_hugeLength 2 := ⟨zU5 44 (by rfl) rfl, ini_AS, pqn96, pqd2, by decide⟩
theorem st_AS_hugeLength : Cond.static m_AS_hugeLength.1 ∈ zT := zU5 43 (by decide +kernel) rfl
def m_AS_newLength : zM := (⟨"jdk/internal/util/ArraysSupport", "newLength", "(III)I"⟩, prog_42_method_27_code, 4, (Option.some Jvm.ClassFile.FieldType.int))
set_option maxRecDepth 20000 in
theorem cb_AS_newLength : zCb m_AS_newLength 3 := ⟨zU5 37 (by rfl) rfl, ini_AS, pqn96, pqd3, by decide⟩
theorem st_AS_newLength : Cond.static m_AS_newLength.1 ∈ zT := zU5 36 (by decide +kernel) rfl
def m_PC_checkFromIndexSize : zM := (⟨"jdk/internal/util/Preconditions", "checkFromIndexSize", "(IIILjava/util/function/BiFunction;)I"⟩, prog_43_method_13_code, 4, (Option.some Jvm.ClassFile.FieldType.int))
set_option maxRecDepth 20000 in
theorem cb_PC_checkFromIndexSize : zCb m_PC_checkFromIndexSize 4 := ⟨zU5 93 (by rfl) rfl, ini_PC, pqn97, pqd98, by decide⟩
theorem st_PC_checkFromIndexSize : Cond.static m_PC_checkFromIndexSize.1 ∈ zT := zU5 92 (by decide +kernel) rfl
def m_PC_checkFromToIndex : zM := (⟨"jdk/internal/util/Preconditions", "checkFromToIndex", "(IIILjava/util/function/BiFunction;)I"⟩, prog_43_method_12_code, 4, (Option.some Jvm.ClassFile.FieldType.int))
set_option maxRecDepth 20000 in
theorem cb_PC_checkFromToIndex : zCb m_PC_checkFromToIndex 4 := ⟨zU5 143 (by rfl) rfl, ini_PC, pqn97, pqd98, by decide⟩
theorem st_PC_checkFromToIndex : Cond.static m_PC_checkFromToIndex.1 ∈ zT := zU5 142 (by decide +kernel) rfl
def m_PC_checkIndex : zM := (⟨"jdk/internal/util/Preconditions", "checkIndex", "(IILjava/util/function/BiFunction;)I"⟩, prog_43_method_11_code, 3, (Option.some Jvm.ClassFile.FieldType.int))
set_option maxRecDepth 20000 in
theorem cb_PC_checkIndex : zCb m_PC_checkIndex 3 := ⟨zU5 114 (by rfl) rfl, ini_PC, pqn97, pqd99, by decide⟩
theorem st_PC_checkIndex : Cond.static m_PC_checkIndex.1 ∈ zT := zU5 113 (by decide +kernel) rfl
theorem lk_L_168 : Cond.methodLink "PartlisterLaw" 168 m_X_init.1 ∈ zT := zU1 33 (by decide +kernel) rfl
theorem lk_X_1 : Cond.methodLink "Partlister" 1 m_OJ_init.1 ∈ zT := zU1 36 (by decide +kernel) rfl
theorem lk_X_9 : Cond.methodLink "Partlister" 9 m_I_init.1 ∈ zT := zU1 41 (by decide +kernel) rfl
theorem lk_I_3 : Cond.methodLink "Partlister$Lists" 3 m_OJ_init.1 ∈ zT := zU1 44 (by decide +kernel) rfl
theorem lk_I_11 : Cond.methodLink "Partlister$Lists" 11 m_N_init.1 ∈ zT := zU1 47 (by decide +kernel) rfl
theorem lk_N_3 : Cond.methodLink "Partlister$Numbers" 3 m_OJ_init.1 ∈ zT := zU1 50 (by decide +kernel) rfl
theorem lk_I_35 : Cond.methodLink "Partlister$Lists" 35 m_N_write.1 ∈ zT := zU1 56 (by decide +kernel) rfl
theorem lk_U_3 : Cond.methodLink "Partlister$Cursors" 3 m_OJ_init.1 ∈ zT := zU1 87 (by decide +kernel) rfl
theorem lk_U_11 : Cond.methodLink "Partlister$Cursors" 11 m_N_init.1 ∈ zT := zU1 89 (by decide +kernel) rfl
theorem lk_L_318 : Cond.methodLink "PartlisterLaw" 318 m_X_isSound.1 ∈ zT := zU1 122 (by decide +kernel) rfl
theorem lk_X_253 : Cond.methodLink "Partlister" 253 m_I_areSound.1 ∈ zT := zU1 126 (by decide +kernel) rfl
theorem lk_I_86 : Cond.methodLink "Partlister$Lists" 86 m_I_isThere.1 ∈ zT := zU1 130 (by decide +kernel) rfl
theorem lk_I_39 : Cond.methodLink "Partlister$Lists" 39 m_N_read.1 ∈ zT := zU1 134 (by decide +kernel) rfl
theorem lk_I_110 : Cond.methodLink "Partlister$Lists" 110 m_I_liesInAbove.1 ∈ zT := zU1 138 (by decide +kernel) rfl
theorem lk_I_59 : Cond.methodLink "Partlister$Lists" 59 m_I_lengthOf.1 ∈ zT := zU1 142 (by decide +kernel) rfl
theorem lk_I_50 : Cond.methodLink "Partlister$Lists" 50 m_I_thingAt.1 ∈ zT := zU1 146 (by decide +kernel) rfl
theorem lk_I_43 : Cond.methodLink "Partlister$Lists" 43 m_I_cellOf.1 ∈ zT := zU1 150 (by decide +kernel) rfl
theorem lk_I_113 : Cond.methodLink "Partlister$Lists" 113 m_I_isSameBackward.1 ∈ zT := zU1 154 (by decide +kernel) rfl
theorem lk_I_65 : Cond.methodLink "Partlister$Lists" 65 m_I_copyToSpare.1 ∈ zT := zU1 158 (by decide +kernel) rfl
theorem lk_I_73 : Cond.methodLink "Partlister$Lists" 73 m_I_thingInSpare.1 ∈ zT := zU1 162 (by decide +kernel) rfl
theorem lk_I_122 : Cond.methodLink "Partlister$Lists" 122 m_I_placeInSpare.1 ∈ zT := zU1 166 (by decide +kernel) rfl
theorem lk_I_116 : Cond.methodLink "Partlister$Lists" 116 m_I_areKeysFound.1 ∈ zT := zU1 170 (by decide +kernel) rfl
theorem lk_I_101 : Cond.methodLink "Partlister$Lists" 101 m_I_keyAt.1 ∈ zT := zU1 174 (by decide +kernel) rfl
theorem lk_I_125 : Cond.methodLink "Partlister$Lists" 125 m_I_firstOf.1 ∈ zT := zU1 181 (by decide +kernel) rfl
theorem lk_I_128 : Cond.methodLink "Partlister$Lists" 128 m_I_lastOf.1 ∈ zT := zU1 185 (by decide +kernel) rfl
theorem lk_I_119 : Cond.methodLink "Partlister$Lists" 119 m_I_isOrdering.1 ∈ zT := zU1 189 (by decide +kernel) rfl
theorem lk_I_76 : Cond.methodLink "Partlister$Lists" 76 m_I_arrangeSpare.1 ∈ zT := zU1 193 (by decide +kernel) rfl
theorem lk_X_97 : Cond.methodLink "Partlister" 97 m_X_keyOf.1 ∈ zT := zU1 200 (by decide +kernel) rfl
theorem lk_X_48 : Cond.methodLink "Partlister" 48 m_X_tagOf.1 ∈ zT := zU1 201 (by decide +kernel) rfl
theorem lk_I_131 : Cond.methodLink "Partlister$Lists" 131 m_I_mayFollow.1 ∈ zT := zU1 204 (by decide +kernel) rfl
theorem lk_I_134 : Cond.methodLink "Partlister$Lists" 134 m_IN_bitCount.1 ∈ zT := zU1 208 (by decide +kernel) rfl
theorem lk_L_323 : Cond.methodLink "PartlisterLaw" 323 m_X_knock.1 ∈ zT := zU1 214 (by decide +kernel) rfl
theorem lk_L_327 : Cond.methodLink "PartlisterLaw" 327 m_X_digest.1 ∈ zT := zU1 218 (by decide +kernel) rfl
theorem lk_X_250 : Cond.methodLink "Partlister" 250 m_X_worthOfHouse.1 ∈ zT := zU1 223 (by decide +kernel) rfl
theorem lk_X_308 : Cond.methodLink "Partlister" 308 m_I_countParts.1 ∈ zT := zU1 227 (by decide +kernel) rfl
theorem lk_X_311 : Cond.methodLink "Partlister" 311 m_U_countThere.1 ∈ zT := zU1 231 (by decide +kernel) rfl
theorem lk_U_37 : Cond.methodLink "Partlister$Cursors" 37 m_U_isThere.1 ∈ zT := zU1 235 (by decide +kernel) rfl
theorem lk_U_29 : Cond.methodLink "Partlister$Cursors" 29 m_U_isStale.1 ∈ zT := zU1 239 (by decide +kernel) rfl
theorem lk_U_33 : Cond.methodLink "Partlister$Cursors" 33 m_N_read.1 ∈ zT := zU2 3 (by decide +kernel) rfl
theorem lk_X_314 : Cond.methodLink "Partlister" 314 m_U_countStale.1 ∈ zT := zU2 4 (by decide +kernel) rfl
theorem lk_X_317 : Cond.methodLink "Partlister" 317 m_I_countEnded.1 ∈ zT := zU2 8 (by decide +kernel) rfl
theorem lk_X_320 : Cond.methodLink "Partlister" 320 m_U_countEnded.1 ∈ zT := zU2 12 (by decide +kernel) rfl
theorem lk_X_263 : Cond.methodLink "Partlister" 263 m_X_mix.1 ∈ zT := zU2 16 (by decide +kernel) rfl
theorem lk_X_34 : Cond.methodLink "Partlister" 34 m_I_lengthOf.1 ∈ zT := zU2 20 (by decide +kernel) rfl
theorem lk_X_155 : Cond.methodLink "Partlister" 155 m_I_isThere.1 ∈ zT := zU2 21 (by decide +kernel) rfl
theorem lk_X_267 : Cond.methodLink "Partlister" 267 m_X_mixList.1 ∈ zT := zU2 22 (by decide +kernel) rfl
theorem lk_X_94 : Cond.methodLink "Partlister" 94 m_I_thingAt.1 ∈ zT := zU2 26 (by decide +kernel) rfl
theorem lk_X_217 : Cond.methodLink "Partlister" 217 m_I_hashOf.1 ∈ zT := zU2 27 (by decide +kernel) rfl
theorem lk_X_213 : Cond.methodLink "Partlister" 213 m_I_extremeKey.1 ∈ zT := zU2 31 (by decide +kernel) rfl
theorem lk_X_72 : Cond.methodLink "Partlister" 72 m_I_firstOf.1 ∈ zT := zU2 35 (by decide +kernel) rfl
theorem lk_X_187 : Cond.methodLink "Partlister" 187 m_I_lastOf.1 ∈ zT := zU2 36 (by decide +kernel) rfl
theorem lk_X_189 : Cond.methodLink "Partlister" 189 m_I_countOf.1 ∈ zT := zU2 37 (by decide +kernel) rfl
theorem lk_X_323 : Cond.methodLink "Partlister" 323 m_X_countSigns.1 ∈ zT := zU2 41 (by decide +kernel) rfl
theorem lk_X_326 : Cond.methodLink "Partlister" 326 m_X_countDigits.1 ∈ zT := zU2 45 (by decide +kernel) rfl
theorem lk_X_238 : Cond.methodLink "Partlister" 238 m_I_worthOf.1 ∈ zT := zU2 48 (by decide +kernel) rfl
theorem lk_I_56 : Cond.methodLink "Partlister$Lists" 56 m_I_rowOf.1 ∈ zT := zU2 52 (by decide +kernel) rfl
theorem lk_X_271 : Cond.methodLink "Partlister" 271 m_X_mixPair.1 ∈ zT := zU2 56 (by decide +kernel) rfl
theorem lk_X_199 : Cond.methodLink "Partlister" 199 m_I_matchWholly.1 ∈ zT := zU2 60 (by decide +kernel) rfl
theorem lk_I_107 : Cond.methodLink "Partlister$Lists" 107 m_I_matchFrom.1 ∈ zT := zU2 64 (by decide +kernel) rfl
theorem lk_X_192 : Cond.methodLink "Partlister" 192 m_I_holdsKeys.1 ∈ zT := zU2 68 (by decide +kernel) rfl
theorem lk_I_104 : Cond.methodLink "Partlister$Lists" 104 m_I_keysOf.1 ∈ zT := zU2 72 (by decide +kernel) rfl
theorem lk_X_196 : Cond.methodLink "Partlister" 196 m_I_shareNoKey.1 ∈ zT := zU2 76 (by decide +kernel) rfl
theorem lk_X_202 : Cond.methodLink "Partlister" 202 m_I_placeOf.1 ∈ zT := zU2 80 (by decide +kernel) rfl
theorem lk_X_245 : Cond.methodLink "Partlister" 245 m_X_worthOfCursor.1 ∈ zT := zU2 84 (by decide +kernel) rfl
theorem lk_X_305 : Cond.methodLink "Partlister" 305 m_U_stateOf.1 ∈ zT := zU2 88 (by decide +kernel) rfl
theorem lk_X_148 : Cond.methodLink "Partlister" 148 m_U_isThere.1 ∈ zT := zU2 92 (by decide +kernel) rfl
theorem lk_X_152 : Cond.methodLink "Partlister" 152 m_U_listOf.1 ∈ zT := zU2 93 (by decide +kernel) rfl
theorem lk_X_170 : Cond.methodLink "Partlister" 170 m_U_isStale.1 ∈ zT := zU2 97 (by decide +kernel) rfl
theorem lk_X_176 : Cond.methodLink "Partlister" 176 m_U_nextOf.1 ∈ zT := zU2 98 (by decide +kernel) rfl
theorem lk_X_182 : Cond.methodLink "Partlister" 182 m_U_lastOf.1 ∈ zT := zU2 102 (by decide +kernel) rfl
theorem lk_O_1 : Cond.methodLink "PartlisterLaw$Out" 1 m_OJ_init.1 ∈ zT := zU2 111 (by decide +kernel) rfl
theorem lk_L_7 : Cond.methodLink "PartlisterLaw" 7 m_X_add.1 ∈ zT := zU2 125 (by decide +kernel) rfl
theorem lk_X_23 : Cond.methodLink "Partlister" 23 m_X_needList.1 ∈ zT := zU2 129 (by decide +kernel) rfl
theorem lk_TH_1 : Cond.methodLink "java/lang/Throwable" 1 m_OJ_init.1 ∈ zT := zU2 158 (by decide +kernel) rfl
theorem lk_X_129 : Cond.methodLink "Partlister" 129 m_IOE_init.1 ∈ zT := zU2 175 (by decide +kernel) rfl
theorem lk_IOE_7 : Cond.methodLink "java/lang/IndexOutOfBoundsException" 7 m_RX_init.1 ∈ zT := zU2 178 (by decide +kernel) rfl
theorem lk_RX_7 : Cond.methodLink "java/lang/RuntimeException" 7 m_EX_init.1 ∈ zT := zU2 181 (by decide +kernel) rfl
theorem lk_EX_7 : Cond.methodLink "java/lang/Exception" 7 m_TH_init2.1 ∈ zT := zU2 184 (by decide +kernel) rfl
theorem lk_X_27 : Cond.methodLink "Partlister" 27 m_X_needKey.1 ∈ zT := zU2 201 (by decide +kernel) rfl
theorem lk_X_85 : Cond.methodLink "Partlister" 85 m_IAE_init.1 ∈ zT := zU2 215 (by decide +kernel) rfl
theorem lk_IAE_7 : Cond.methodLink "java/lang/IllegalArgumentException" 7 m_RX_init.1 ∈ zT := zU2 218 (by decide +kernel) rfl
theorem lk_X_30 : Cond.methodLink "Partlister" 30 m_X_needRoom.1 ∈ zT := zU2 221 (by decide +kernel) rfl
theorem lk_X_299 : Cond.methodLink "Partlister" 299 m_I_rowOf.1 ∈ zT := zU2 225 (by decide +kernel) rfl
theorem lk_X_138 : Cond.methodLink "Partlister" 138 m_ISE_init.1 ∈ zT := zU2 236 (by decide +kernel) rfl
theorem lk_ISE_7 : Cond.methodLink "java/lang/IllegalStateException" 7 m_RX_init.1 ∈ zT := zU2 239 (by decide +kernel) rfl
theorem lk_X_38 : Cond.methodLink "Partlister" 38 m_X_make.1 ∈ zT := zU3 2 (by decide +kernel) rfl
theorem lk_X_100 : Cond.methodLink "Partlister" 100 m_X_thingOf.1 ∈ zT := zU3 6 (by decide +kernel) rfl
theorem lk_X_41 : Cond.methodLink "Partlister" 41 m_X_bringIn.1 ∈ zT := zU3 9 (by decide +kernel) rfl
theorem lk_X_278 : Cond.methodLink "Partlister" 278 m_I_openGap.1 ∈ zT := zU3 13 (by decide +kernel) rfl
theorem lk_I_53 : Cond.methodLink "Partlister$Lists" 53 m_I_write.1 ∈ zT := zU3 17 (by decide +kernel) rfl
theorem lk_I_62 : Cond.methodLink "Partlister$Lists" 62 m_I_lengthen.1 ∈ zT := zU3 21 (by decide +kernel) rfl
theorem lk_X_65 : Cond.methodLink "Partlister" 65 m_I_write.1 ∈ zT := zU3 25 (by decide +kernel) rfl
theorem lk_X_281 : Cond.methodLink "Partlister" 281 m_X_endByLength.1 ∈ zT := zU3 26 (by decide +kernel) rfl
theorem lk_X_290 : Cond.methodLink "Partlister" 290 m_I_endOthers.1 ∈ zT := zU3 30 (by decide +kernel) rfl
theorem lk_I_90 : Cond.methodLink "Partlister$Lists" 90 m_I_isWithin.1 ∈ zT := zU3 34 (by decide +kernel) rfl
theorem lk_I_94 : Cond.methodLink "Partlister$Lists" 94 m_I_finish.1 ∈ zT := zU3 38 (by decide +kernel) rfl
theorem lk_X_293 : Cond.methodLink "Partlister" 293 m_X_isOnRowOf.1 ∈ zT := zU3 42 (by decide +kernel) rfl
theorem lk_X_296 : Cond.methodLink "Partlister" 296 m_U_unsettle.1 ∈ zT := zU3 46 (by decide +kernel) rfl
theorem lk_U_48 : Cond.methodLink "Partlister$Cursors" 48 m_U_listOf.1 ∈ zT := zU3 50 (by decide +kernel) rfl
theorem lk_U_40 : Cond.methodLink "Partlister$Cursors" 40 m_N_write.1 ∈ zT := zU3 51 (by decide +kernel) rfl
theorem lk_U_51 : Cond.methodLink "Partlister$Cursors" 51 m_U_finish.1 ∈ zT := zU3 52 (by decide +kernel) rfl
theorem lk_L_25 : Cond.methodLink "PartlisterLaw" 25 m_X_addAt.1 ∈ zT := zU3 59 (by decide +kernel) rfl
theorem lk_X_45 : Cond.methodLink "Partlister" 45 m_X_needGap.1 ∈ zT := zU3 63 (by decide +kernel) rfl
theorem lk_L_29 : Cond.methodLink "PartlisterLaw" 29 m_X_addAll.1 ∈ zT := zU3 71 (by decide +kernel) rfl
theorem lk_X_51 : Cond.methodLink "Partlister" 51 m_X_needOtherRow.1 ∈ zT := zU3 75 (by decide +kernel) rfl
theorem lk_X_54 : Cond.methodLink "Partlister" 54 m_X_bringAll.1 ∈ zT := zU3 80 (by decide +kernel) rfl
theorem lk_L_32 : Cond.methodLink "PartlisterLaw" 32 m_X_append.1 ∈ zT := zU3 87 (by decide +kernel) rfl
theorem lk_L_35 : Cond.methodLink "PartlisterLaw" 35 m_X_set.1 ∈ zT := zU3 94 (by decide +kernel) rfl
theorem lk_X_58 : Cond.methodLink "Partlister" 58 m_X_needPlace.1 ∈ zT := zU3 98 (by decide +kernel) rfl
theorem lk_X_61 : Cond.methodLink "Partlister" 61 m_I_keyAt.1 ∈ zT := zU3 103 (by decide +kernel) rfl
theorem lk_L_38 : Cond.methodLink "PartlisterLaw" 38 m_X_removeAt.1 ∈ zT := zU3 107 (by decide +kernel) rfl
theorem lk_X_69 : Cond.methodLink "Partlister" 69 m_X_takeOut.1 ∈ zT := zU3 111 (by decide +kernel) rfl
theorem lk_X_284 : Cond.methodLink "Partlister" 284 m_I_closeGap.1 ∈ zT := zU3 115 (by decide +kernel) rfl
theorem lk_L_41 : Cond.methodLink "PartlisterLaw" 41 m_X_remove.1 ∈ zT := zU3 122 (by decide +kernel) rfl
theorem lk_L_45 : Cond.methodLink "PartlisterLaw" 45 m_X_removeAll.1 ∈ zT := zU3 129 (by decide +kernel) rfl
theorem lk_X_75 : Cond.methodLink "Partlister" 75 m_I_keysOf.1 ∈ zT := zU3 133 (by decide +kernel) rfl
theorem lk_X_78 : Cond.methodLink "Partlister" 78 m_X_takeOutAll.1 ∈ zT := zU3 134 (by decide +kernel) rfl
theorem lk_X_287 : Cond.methodLink "Partlister" 287 m_I_sweepOut.1 ∈ zT := zU3 138 (by decide +kernel) rfl
theorem lk_L_48 : Cond.methodLink "PartlisterLaw" 48 m_X_retainAll.1 ∈ zT := zU3 145 (by decide +kernel) rfl
theorem lk_L_51 : Cond.methodLink "PartlisterLaw" 51 m_X_removeIf.1 ∈ zT := zU3 152 (by decide +kernel) rfl
theorem lk_L_54 : Cond.methodLink "PartlisterLaw" 54 m_X_clear.1 ∈ zT := zU3 161 (by decide +kernel) rfl
theorem lk_L_58 : Cond.methodLink "PartlisterLaw" 58 m_X_replaceAll.1 ∈ zT := zU3 168 (by decide +kernel) rfl
theorem lk_X_103 : Cond.methodLink "Partlister" 103 m_X_endAround.1 ∈ zT := zU3 174 (by decide +kernel) rfl
theorem lk_X_156 : Cond.methodLink "Partlister" 156 m_U_finish.1 ∈ zT := zU3 178 (by decide +kernel) rfl
theorem lk_L_61 : Cond.methodLink "PartlisterLaw" 61 m_X_assign.1 ∈ zT := zU3 182 (by decide +kernel) rfl
theorem lk_X_106 : Cond.methodLink "Partlister" 106 m_X_needRow.1 ∈ zT := zU3 186 (by decide +kernel) rfl
theorem lk_X_109 : Cond.methodLink "Partlister" 109 m_I_copyToRow.1 ∈ zT := zU3 191 (by decide +kernel) rfl
theorem lk_L_64 : Cond.methodLink "PartlisterLaw" 64 m_X_pack.1 ∈ zT := zU3 198 (by decide +kernel) rfl
theorem lk_L_68 : Cond.methodLink "PartlisterLaw" 68 m_X_sort.1 ∈ zT := zU3 205 (by decide +kernel) rfl
theorem lk_X_114 : Cond.methodLink "Partlister" 114 m_I_arrange.1 ∈ zT := zU3 210 (by decide +kernel) rfl
theorem lk_L_71 : Cond.methodLink "PartlisterLaw" 71 m_X_turn.1 ∈ zT := zU3 218 (by decide +kernel) rfl
theorem lk_X_117 : Cond.methodLink "Partlister" 117 m_I_swap.1 ∈ zT := zU3 222 (by decide +kernel) rfl
theorem lk_L_74 : Cond.methodLink "PartlisterLaw" 74 m_X_move.1 ∈ zT := zU3 229 (by decide +kernel) rfl
theorem lk_X_122 : Cond.methodLink "Partlister" 122 m_I_moveOn.1 ∈ zT := zU3 234 (by decide +kernel) rfl
theorem lk_I_68 : Cond.methodLink "Partlister$Lists" 68 m_MA_floorMod.1 ∈ zT := zU3 238 (by decide +kernel) rfl
theorem lk_L_77 : Cond.methodLink "PartlisterLaw" 77 m_X_exchange.1 ∈ zT := zU4 4 (by decide +kernel) rfl
theorem lk_L_81 : Cond.methodLink "PartlisterLaw" 81 m_X_part.1 ∈ zT := zU4 11 (by decide +kernel) rfl
theorem lk_X_130 : Cond.methodLink "Partlister" 130 m_I_freePart.1 ∈ zT := zU4 16 (by decide +kernel) rfl
theorem lk_X_139 : Cond.methodLink "Partlister" 139 m_I_open.1 ∈ zT := zU4 21 (by decide +kernel) rfl
theorem lk_L_84 : Cond.methodLink "PartlisterLaw" 84 m_X_close.1 ∈ zT := zU4 28 (by decide +kernel) rfl
theorem lk_X_142 : Cond.methodLink "Partlister" 142 m_X_needPart.1 ∈ zT := zU4 32 (by decide +kernel) rfl
theorem lk_X_145 : Cond.methodLink "Partlister" 145 m_I_endWithin.1 ∈ zT := zU4 37 (by decide +kernel) rfl
theorem lk_L_87 : Cond.methodLink "PartlisterLaw" 87 m_X_cursor.1 ∈ zT := zU4 44 (by decide +kernel) rfl
theorem lk_X_159 : Cond.methodLink "Partlister" 159 m_U_freeCursor.1 ∈ zT := zU4 48 (by decide +kernel) rfl
theorem lk_X_164 : Cond.methodLink "Partlister" 164 m_U_start.1 ∈ zT := zU4 53 (by decide +kernel) rfl
theorem lk_U_44 : Cond.methodLink "Partlister$Cursors" 44 m_U_stand.1 ∈ zT := zU4 57 (by decide +kernel) rfl
theorem lk_L_90 : Cond.methodLink "PartlisterLaw" 90 m_X_next.1 ∈ zT := zU4 64 (by decide +kernel) rfl
theorem lk_X_167 : Cond.methodLink "Partlister" 167 m_X_needCursor.1 ∈ zT := zU4 68 (by decide +kernel) rfl
theorem lk_X_173 : Cond.methodLink "Partlister" 173 m_X_failWith.1 ∈ zT := zU4 73 (by decide +kernel) rfl
theorem lk_X_179 : Cond.methodLink "Partlister" 179 m_U_stand.1 ∈ zT := zU4 77 (by decide +kernel) rfl
theorem lk_L_93 : Cond.methodLink "PartlisterLaw" 93 m_X_previous.1 ∈ zT := zU4 81 (by decide +kernel) rfl
theorem lk_L_96 : Cond.methodLink "PartlisterLaw" 96 m_X_put.1 ∈ zT := zU4 88 (by decide +kernel) rfl
theorem lk_L_99 : Cond.methodLink "PartlisterLaw" 99 m_X_drop.1 ∈ zT := zU4 95 (by decide +kernel) rfl
theorem lk_L_102 : Cond.methodLink "PartlisterLaw" 102 m_X_insert.1 ∈ zT := zU4 102 (by decide +kernel) rfl
theorem lk_L_105 : Cond.methodLink "PartlisterLaw" 105 m_X_run.1 ∈ zT := zU4 109 (by decide +kernel) rfl
theorem lk_L_108 : Cond.methodLink "PartlisterLaw" 108 m_X_end.1 ∈ zT := zU4 116 (by decide +kernel) rfl
theorem lk_L_112 : Cond.methodLink "PartlisterLaw" 112 m_X_size.1 ∈ zT := zU4 123 (by decide +kernel) rfl
theorem lk_L_115 : Cond.methodLink "PartlisterLaw" 115 m_X_key.1 ∈ zT := zU4 131 (by decide +kernel) rfl
theorem lk_L_118 : Cond.methodLink "PartlisterLaw" 118 m_X_tag.1 ∈ zT := zU4 138 (by decide +kernel) rfl
theorem lk_L_121 : Cond.methodLink "PartlisterLaw" 121 m_X_first.1 ∈ zT := zU4 145 (by decide +kernel) rfl
theorem lk_L_124 : Cond.methodLink "PartlisterLaw" 124 m_X_last.1 ∈ zT := zU4 152 (by decide +kernel) rfl
theorem lk_L_127 : Cond.methodLink "PartlisterLaw" 127 m_X_many.1 ∈ zT := zU4 159 (by decide +kernel) rfl
theorem lk_L_130 : Cond.methodLink "PartlisterLaw" 130 m_X_hasAll.1 ∈ zT := zU4 166 (by decide +kernel) rfl
theorem lk_L_133 : Cond.methodLink "PartlisterLaw" 133 m_X_areApart.1 ∈ zT := zU4 173 (by decide +kernel) rfl
theorem lk_L_136 : Cond.methodLink "PartlisterLaw" 136 m_X_isSame.1 ∈ zT := zU4 180 (by decide +kernel) rfl
theorem lk_L_139 : Cond.methodLink "PartlisterLaw" 139 m_X_find.1 ∈ zT := zU4 187 (by decide +kernel) rfl
theorem lk_L_142 : Cond.methodLink "PartlisterLaw" 142 m_X_spot.1 ∈ zT := zU4 194 (by decide +kernel) rfl
theorem lk_X_205 : Cond.methodLink "Partlister" 205 m_I_isSorted.1 ∈ zT := zU4 198 (by decide +kernel) rfl
theorem lk_X_210 : Cond.methodLink "Partlister" 210 m_I_countBelow.1 ∈ zT := zU4 203 (by decide +kernel) rfl
theorem lk_L_145 : Cond.methodLink "PartlisterLaw" 145 m_X_extreme.1 ∈ zT := zU4 210 (by decide +kernel) rfl
theorem lk_L_148 : Cond.methodLink "PartlisterLaw" 148 m_X_hash.1 ∈ zT := zU4 217 (by decide +kernel) rfl
theorem lk_L_151 : Cond.methodLink "PartlisterLaw" 151 m_X_text.1 ∈ zT := zU4 224 (by decide +kernel) rfl
theorem lk_X_224 : Cond.methodLink "Partlister" 224 m_SB_init.1 ∈ zT := zU4 231 (by decide +kernel) rfl
theorem lk_SB_1 : Cond.methodLink "java/lang/StringBuilder" 1 m_AB_init.1 ∈ zT := zU4 234 (by decide +kernel) rfl
theorem lk_AB_3 : Cond.methodLink "java/lang/AbstractStringBuilder" 3 m_OJ_init.1 ∈ zT := zU4 237 (by decide +kernel) rfl
theorem lk_AB_26 : Cond.methodLink "java/lang/AbstractStringBuilder" 26 m_U6_newBytesFor.1 ∈ zT := zU5 0 (by decide +kernel) rfl
theorem lk_U6_11 : Cond.methodLink "java/lang/StringUTF16" 11 m_U6_newBytesLength.1 ∈ zT := zU5 3 (by decide +kernel) rfl
theorem lk_X_225 : Cond.methodLink "Partlister" 225 m_SB_append1.1 ∈ zT := zU5 20 (by decide +kernel) rfl
theorem lk_SB_50 : Cond.methodLink "java/lang/StringBuilder" 50 m_AB_append1.1 ∈ zT := zU5 24 (by decide +kernel) rfl
theorem lk_AB_100 : Cond.methodLink "java/lang/AbstractStringBuilder" 100 m_AB_ensureCapacityInternal.1 ∈ zT := zU5 27 (by decide +kernel) rfl
theorem lk_AB_104 : Cond.methodLink "java/lang/AbstractStringBuilder" 104 m_AB_newCapacity.1 ∈ zT := zU5 31 (by decide +kernel) rfl
theorem lk_AB_114 : Cond.methodLink "java/lang/AbstractStringBuilder" 114 m_AS_newLength.1 ∈ zT := zU5 35 (by decide +kernel) rfl
theorem lk_AS_194 : Cond.methodLink "jdk/internal/util/ArraysSupport" 194 m_MA_max.1 ∈ zT := zU5 38 (by decide +kernel) rfl
theorem lk_AS_201 : Cond.methodLink "jdk/internal/util/ArraysSupport" 201 m_AS_hugeLength.1 ∈ zT := zU5 42 (by decide +kernel) rfl
theorem lk_AB_108 : Cond.methodLink "java/lang/AbstractStringBuilder" 108 m_AR_copyOf1.1 ∈ zT := zU5 46 (by decide +kernel) rfl
theorem lk_AR_304 : Cond.methodLink "java/util/Arrays" 304 m_MA_min.1 ∈ zT := zU5 56 (by decide +kernel) rfl
theorem lk_AB_83 : Cond.methodLink "java/lang/AbstractStringBuilder" 83 m_AB_isLatin1.1 ∈ zT := zU5 62 (by decide +kernel) rfl
theorem lk_AB_191 : Cond.methodLink "java/lang/AbstractStringBuilder" 191 m_L1_canEncode.1 ∈ zT := zU5 67 (by decide +kernel) rfl
theorem lk_AB_195 : Cond.methodLink "java/lang/AbstractStringBuilder" 195 m_AB_inflate.1 ∈ zT := zU5 70 (by decide +kernel) rfl
theorem lk_AB_125 : Cond.methodLink "java/lang/AbstractStringBuilder" 125 m_L1_inflate.1 ∈ zT := zU5 74 (by decide +kernel) rfl
theorem lk_L1_240 : Cond.methodLink "java/lang/StringLatin1" 240 m_U6_inflate.1 ∈ zT := zU5 77 (by decide +kernel) rfl
theorem lk_U6_173 : Cond.methodLink "java/lang/StringUTF16" 173 m_U6_checkBoundsOffCount.1 ∈ zT := zU5 80 (by decide +kernel) rfl
theorem lk_U6_48 : Cond.methodLink "java/lang/StringUTF16" 48 m_U6_length.1 ∈ zT := zU5 83 (by decide +kernel) rfl
theorem lk_U6_419 : Cond.methodLink "java/lang/StringUTF16" 419 m_ST_checkBoundsOffCount.1 ∈ zT := zU5 86 (by decide +kernel) rfl
theorem lk_ST_1065 : Cond.methodLink "java/lang/String" 1065 m_PC_checkFromIndexSize.1 ∈ zT := zU5 91 (by decide +kernel) rfl
theorem lk_U6_111 : Cond.methodLink "java/lang/StringUTF16" 111 m_U6_putChar.1 ∈ zT := zU5 94 (by decide +kernel) rfl
theorem lk_AB_197 : Cond.methodLink "java/lang/AbstractStringBuilder" 197 m_U6_putCharSB.1 ∈ zT := zU5 103 (by decide +kernel) rfl
theorem lk_U6_67 : Cond.methodLink "java/lang/StringUTF16" 67 m_U6_checkIndex.1 ∈ zT := zU5 106 (by decide +kernel) rfl
theorem lk_U6_414 : Cond.methodLink "java/lang/StringUTF16" 414 m_ST_checkIndex.1 ∈ zT := zU5 109 (by decide +kernel) rfl
theorem lk_ST_1059 : Cond.methodLink "java/lang/String" 1059 m_PC_checkIndex.1 ∈ zT := zU5 112 (by decide +kernel) rfl
theorem lk_X_229 : Cond.methodLink "Partlister" 229 m_SB_append2.1 ∈ zT := zU5 115 (by decide +kernel) rfl
theorem lk_SB_53 : Cond.methodLink "java/lang/StringBuilder" 53 m_AB_append2.1 ∈ zT := zU5 119 (by decide +kernel) rfl
theorem lk_AB_245 : Cond.methodLink "java/lang/AbstractStringBuilder" 245 m_IN_stringSize.1 ∈ zT := zU5 122 (by decide +kernel) rfl
theorem lk_AB_248 : Cond.methodLink "java/lang/AbstractStringBuilder" 248 m_IN_getChars.1 ∈ zT := zU5 125 (by decide +kernel) rfl
theorem lk_AB_251 : Cond.methodLink "java/lang/AbstractStringBuilder" 251 m_U6_getChars1.1 ∈ zT := zU5 132 (by decide +kernel) rfl
theorem lk_U6_96 : Cond.methodLink "java/lang/StringUTF16" 96 m_U6_checkBoundsBeginEnd.1 ∈ zT := zU5 135 (by decide +kernel) rfl
theorem lk_U6_241 : Cond.methodLink "java/lang/StringUTF16" 241 m_ST_checkBoundsBeginEnd.1 ∈ zT := zU5 138 (by decide +kernel) rfl
theorem lk_ST_1062 : Cond.methodLink "java/lang/String" 1062 m_PC_checkFromToIndex.1 ∈ zT := zU5 141 (by decide +kernel) rfl
theorem lk_U6_393 : Cond.methodLink "java/lang/StringUTF16" 393 m_U6_getChars2.1 ∈ zT := zU5 144 (by decide +kernel) rfl
theorem lk_X_232 : Cond.methodLink "Partlister" 232 m_SB_toString.1 ∈ zT := zU5 149 (by decide +kernel) rfl
theorem lk_SB_137 : Cond.methodLink "java/lang/StringBuilder" 137 m_ST_init2.1 ∈ zT := zU5 155 (by decide +kernel) rfl
theorem lk_ST_489 : Cond.methodLink "java/lang/String" 489 m_ST_init1.1 ∈ zT := zU5 158 (by decide +kernel) rfl
theorem lk_ST_1 : Cond.methodLink "java/lang/String" 1 m_OJ_init.1 ∈ zT := zU5 161 (by decide +kernel) rfl
theorem lk_ST_552 : Cond.methodLink "java/lang/String" 552 m_AB_getValue.1 ∈ zT := zU5 162 (by decide +kernel) rfl
theorem lk_ST_549 : Cond.methodLink "java/lang/String" 549 m_AB_length.1 ∈ zT := zU5 167 (by decide +kernel) rfl
theorem lk_SB_343 : Cond.methodLink "java/lang/StringBuilder" 343 m_AB_length.1 ∈ zT := zU5 173 (by decide +kernel) rfl
theorem lk_ST_1047 : Cond.methodLink "java/lang/String" 1047 m_AB_isLatin1.1 ∈ zT := zU5 175 (by decide +kernel) rfl
theorem lk_ST_54 : Cond.methodLink "java/lang/String" 54 m_AR_copyOfRange.1 ∈ zT := zU5 176 (by decide +kernel) rfl
theorem lk_AR_339 : Cond.methodLink "java/util/Arrays" 339 m_AR_copyOfRangeByte.1 ∈ zT := zU5 179 (by decide +kernel) rfl
theorem lk_AR_343 : Cond.methodLink "java/util/Arrays" 343 m_AR_checkLength.1 ∈ zT := zU5 182 (by decide +kernel) rfl
theorem lk_AR_47 : Cond.methodLink "java/util/Arrays" 47 m_SB_init.1 ∈ zT := zU5 187 (by decide +kernel) rfl
theorem lk_AR_54 : Cond.methodLink "java/util/Arrays" 54 m_SB_append2.1 ∈ zT := zU5 188 (by decide +kernel) rfl
theorem lk_AR_50 : Cond.methodLink "java/util/Arrays" 50 m_SB_append3.1 ∈ zT := zU5 190 (by decide +kernel) rfl
theorem lk_SB_29 : Cond.methodLink "java/lang/StringBuilder" 29 m_AB_append3.1 ∈ zT := zU5 194 (by decide +kernel) rfl
theorem lk_AB_204 : Cond.methodLink "java/lang/AbstractStringBuilder" 204 m_AB_appendNull.1 ∈ zT := zU5 197 (by decide +kernel) rfl
theorem lk_AB_226 : Cond.methodLink "java/lang/AbstractStringBuilder" 226 m_U6_putCharsAt.1 ∈ zT := zU5 201 (by decide +kernel) rfl
theorem lk_AB_32 : Cond.methodLink "java/lang/AbstractStringBuilder" 32 m_ST_length.1 ∈ zT := zU5 204 (by decide +kernel) rfl
theorem lk_ST_335 : Cond.methodLink "java/lang/String" 335 m_ST_coder.1 ∈ zT := zU5 208 (by decide +kernel) rfl
theorem lk_AB_208 : Cond.methodLink "java/lang/AbstractStringBuilder" 208 m_AB_putStringAt.1 ∈ zT := zU5 213 (by decide +kernel) rfl
theorem lk_AB_397 : Cond.methodLink "java/lang/AbstractStringBuilder" 397 m_AB_inflateIfNeededFor.1 ∈ zT := zU5 217 (by decide +kernel) rfl
theorem lk_AB_40 : Cond.methodLink "java/lang/AbstractStringBuilder" 40 m_ST_coder.1 ∈ zT := zU5 221 (by decide +kernel) rfl
theorem lk_AB_399 : Cond.methodLink "java/lang/AbstractStringBuilder" 399 m_ST_getBytes.1 ∈ zT := zU5 222 (by decide +kernel) rfl
theorem lk_ST_106 : Cond.methodLink "java/lang/String" 106 m_L1_inflate.1 ∈ zT := zU5 227 (by decide +kernel) rfl
theorem lk_AR_61 : Cond.methodLink "java/util/Arrays" 61 m_SB_toString.1 ∈ zT := zU5 228 (by decide +kernel) rfl
theorem lk_AR_65 : Cond.methodLink "java/util/Arrays" 65 m_IAE_init.1 ∈ zT := zU5 229 (by decide +kernel) rfl
theorem lk_ST_1051 : Cond.methodLink "java/lang/String" 1051 m_U6_compress1.1 ∈ zT := zU5 230 (by decide +kernel) rfl
theorem lk_U6_123 : Cond.methodLink "java/lang/StringUTF16" 123 m_U6_compress2.1 ∈ zT := zU5 233 (by decide +kernel) rfl
theorem lk_U6_71 : Cond.methodLink "java/lang/StringUTF16" 71 m_U6_getChar.1 ∈ zT := zU5 236 (by decide +kernel) rfl
theorem lk_U6_126 : Cond.methodLink "java/lang/StringUTF16" 126 m_AR_copyOfRange.1 ∈ zT := zU5 239 (by decide +kernel) rfl
theorem lk_ST_47 : Cond.methodLink "java/lang/String" 47 m_U6_coderFromArrayLen.1 ∈ zT := zU6 0 (by decide +kernel) rfl
theorem lk_L_159 : Cond.methodLink "PartlisterLaw" 159 m_X_ofPart.1 ∈ zT := zU6 17 (by decide +kernel) rfl
theorem lk_L_162 : Cond.methodLink "PartlisterLaw" 162 m_X_ofCursor.1 ∈ zT := zU6 25 (by decide +kernel) rfl
theorem lk_L_165 : Cond.methodLink "PartlisterLaw" 165 m_X_house.1 ∈ zT := zU6 34 (by decide +kernel) rfl
theorem lk_L_171 : Cond.methodLink "PartlisterLaw" 171 m_M_init.1 ∈ zT := zU6 41 (by decide +kernel) rfl
theorem lk_M_1 : Cond.methodLink "PartlisterModel" 1 m_OJ_init.1 ∈ zT := zU6 44 (by decide +kernel) rfl
theorem lk_M_9 : Cond.methodLink "PartlisterModel" 9 m_AL_init.1 ∈ zT := zU6 47 (by decide +kernel) rfl
theorem lk_AL_1 : Cond.methodLink "java/util/ArrayList" 1 m_AY_init.1 ∈ zT := zU6 50 (by decide +kernel) rfl
theorem lk_AY_1 : Cond.methodLink "java/util/AbstractList" 1 m_AC_init.1 ∈ zT := zU6 53 (by decide +kernel) rfl
theorem lk_AC_1 : Cond.methodLink "java/util/AbstractCollection" 1 m_OJ_init.1 ∈ zT := zU6 56 (by decide +kernel) rfl
theorem lk_M_28 : Cond.methodLink "PartlisterModel" 28 m_AL_add2.1 ∈ zT := zU6 75 (by decide +kernel) rfl
theorem lk_AL_131 : Cond.methodLink "java/util/ArrayList" 131 m_AL_add3.1 ∈ zT := zU6 79 (by decide +kernel) rfl
theorem lk_AL_129 : Cond.methodLink "java/util/ArrayList" 129 m_AL_grow1.1 ∈ zT := zU6 83 (by decide +kernel) rfl
theorem lk_AL_69 : Cond.methodLink "java/util/ArrayList" 69 m_AL_grow2.1 ∈ zT := zU6 87 (by decide +kernel) rfl
theorem lk_AL_73 : Cond.methodLink "java/util/ArrayList" 73 m_AS_newLength.1 ∈ zT := zU6 91 (by decide +kernel) rfl
theorem lk_AL_66 : Cond.methodLink "java/util/ArrayList" 66 m_AR_copyOf2.1 ∈ zT := zU6 92 (by decide +kernel) rfl
theorem lk_AR_300 : Cond.methodLink "java/util/Arrays" 300 m_AR_copyOf3.1 ∈ zT := zU6 113 (by decide +kernel) rfl
theorem lk_AL_79 : Cond.methodLink "java/util/ArrayList" 79 m_MA_max.1 ∈ zT := zU6 119 (by decide +kernel) rfl
theorem lk_L_192 : Cond.methodLink "PartlisterLaw" 192 m_M_thrown.1 ∈ zT := zU6 149 (by decide +kernel) rfl
theorem lk_L_178 : Cond.methodLink "PartlisterLaw" 178 m_M_add1.1 ∈ zT := zU6 153 (by decide +kernel) rfl
theorem lk_M_110 : Cond.methodLink "PartlisterModel" 110 m_M_isNoList.1 ∈ zT := zU6 157 (by decide +kernel) rfl
theorem lk_M_40 : Cond.methodLink "PartlisterModel" 40 m_M_isIn.1 ∈ zT := zU6 161 (by decide +kernel) rfl
theorem lk_M_114 : Cond.methodLink "PartlisterModel" 114 m_M_start.1 ∈ zT := zU6 164 (by decide +kernel) rfl
theorem lk_M_36 : Cond.methodLink "PartlisterModel" 36 m_M_refuse.1 ∈ zT := zU6 168 (by decide +kernel) rfl
theorem lk_M_117 : Cond.methodLink "PartlisterModel" 117 m_M_isFull.1 ∈ zT := zU6 172 (by decide +kernel) rfl
theorem lk_M_68 : Cond.methodLink "PartlisterModel" 68 m_M_row.1 ∈ zT := zU6 176 (by decide +kernel) rfl
theorem lk_M_47 : Cond.methodLink "PartlisterModel" 47 m_M_rowOf.1 ∈ zT := zU6 180 (by decide +kernel) rfl
theorem lk_M_57 : Cond.methodLink "PartlisterModel" 57 m_AL_get.1 ∈ zT := zU6 184 (by decide +kernel) rfl
theorem lk_AL_118 : Cond.methodLink "java/util/ArrayList" 118 m_OB_checkIndex.1 ∈ zT := zU6 188 (by decide +kernel) rfl
theorem lk_OB_105 : Cond.methodLink "java/util/Objects" 105 m_PC_checkIndex.1 ∈ zT := zU6 191 (by decide +kernel) rfl
theorem lk_AL_123 : Cond.methodLink "java/util/ArrayList" 123 m_AL_elementData.1 ∈ zT := zU6 192 (by decide +kernel) rfl
theorem lk_M_61 : Cond.methodLink "PartlisterModel" 61 m_AL_size.1 ∈ zT := zU6 196 (by decide +kernel) rfl
theorem lk_M_74 : Cond.methodLink "PartlisterModel" 74 m_M_length.1 ∈ zT := zU6 200 (by decide +kernel) rfl
theorem lk_M_120 : Cond.methodLink "PartlisterModel" 120 m_M_make.1 ∈ zT := zU6 204 (by decide +kernel) rfl
theorem lk_M_124 : Cond.methodLink "PartlisterModel" 124 m_M_come.1 ∈ zT := zU6 208 (by decide +kernel) rfl
theorem lk_M_54 : Cond.methodLink "PartlisterModel" 54 m_M_base.1 ∈ zT := zU6 212 (by decide +kernel) rfl
theorem lk_M_107 : Cond.methodLink "PartlisterModel" 107 m_AL_add1.1 ∈ zT := zU6 216 (by decide +kernel) rfl
theorem lk_AL_135 : Cond.methodLink "java/util/ArrayList" 135 m_AL_rangeCheckForAdd.1 ∈ zT := zU6 220 (by decide +kernel) rfl
theorem lk_AL_198 : Cond.methodLink "java/util/ArrayList" 198 m_AL_outOfBoundsMsg.1 ∈ zT := zU6 225 (by decide +kernel) rfl
theorem lk_AL_22 : Cond.methodLink "java/util/ArrayList" 22 m_SB_init.1 ∈ zT := zU6 230 (by decide +kernel) rfl
theorem lk_AL_25 : Cond.methodLink "java/util/ArrayList" 25 m_SB_append3.1 ∈ zT := zU6 232 (by decide +kernel) rfl
theorem lk_AL_29 : Cond.methodLink "java/util/ArrayList" 29 m_SB_append2.1 ∈ zT := zU6 233 (by decide +kernel) rfl
theorem lk_AL_32 : Cond.methodLink "java/util/ArrayList" 32 m_SB_toString.1 ∈ zT := zU6 235 (by decide +kernel) rfl
theorem lk_AL_193 : Cond.methodLink "java/util/ArrayList" 193 m_IOE_init.1 ∈ zT := zU6 236 (by decide +kernel) rfl
theorem lk_M_128 : Cond.methodLink "PartlisterModel" 128 m_M_change.1 ∈ zT := zU6 238 (by decide +kernel) rfl
theorem lk_M_92 : Cond.methodLink "PartlisterModel" 92 m_M_endCursor.1 ∈ zT := zU7 2 (by decide +kernel) rfl
theorem lk_M_103 : Cond.methodLink "PartlisterModel" 103 m_M_endParts.1 ∈ zT := zU7 6 (by decide +kernel) rfl
theorem lk_M_79 : Cond.methodLink "PartlisterModel" 79 m_M_isAbove.1 ∈ zT := zU7 10 (by decide +kernel) rfl
theorem lk_M_86 : Cond.methodLink "PartlisterModel" 86 m_M_endPart.1 ∈ zT := zU7 14 (by decide +kernel) rfl
theorem lk_L_182 : Cond.methodLink "PartlisterLaw" 182 m_M_addAt.1 ∈ zT := zU7 18 (by decide +kernel) rfl
theorem lk_L_185 : Cond.methodLink "PartlisterLaw" 185 m_M_addAll.1 ∈ zT := zU7 22 (by decide +kernel) rfl
theorem lk_M_139 : Cond.methodLink "PartlisterModel" 139 m_M_bring.1 ∈ zT := zU7 26 (by decide +kernel) rfl
theorem lk_M_136 : Cond.methodLink "PartlisterModel" 136 m_M_copy.1 ∈ zT := zU7 30 (by decide +kernel) rfl
theorem lk_M_132 : Cond.methodLink "PartlisterModel" 132 m_M_at.1 ∈ zT := zU7 34 (by decide +kernel) rfl
theorem lk_L_188 : Cond.methodLink "PartlisterLaw" 188 m_M_append.1 ∈ zT := zU7 39 (by decide +kernel) rfl
theorem lk_L_191 : Cond.methodLink "PartlisterLaw" 191 m_M_set.1 ∈ zT := zU7 43 (by decide +kernel) rfl
theorem lk_M_147 : Cond.methodLink "PartlisterModel" 147 m_M_isNoPlace.1 ∈ zT := zU7 47 (by decide +kernel) rfl
theorem lk_M_150 : Cond.methodLink "PartlisterModel" 150 m_M_write.1 ∈ zT := zU7 51 (by decide +kernel) rfl
theorem lk_M_143 : Cond.methodLink "PartlisterModel" 143 m_AL_set.1 ∈ zT := zU7 55 (by decide +kernel) rfl
theorem lk_L_198 : Cond.methodLink "PartlisterLaw" 198 m_M_removeAt.1 ∈ zT := zU7 59 (by decide +kernel) rfl
theorem lk_M_157 : Cond.methodLink "PartlisterModel" 157 m_M_take.1 ∈ zT := zU7 63 (by decide +kernel) rfl
theorem lk_M_154 : Cond.methodLink "PartlisterModel" 154 m_AL_remove.1 ∈ zT := zU7 67 (by decide +kernel) rfl
theorem lk_AL_144 : Cond.methodLink "java/util/ArrayList" 144 m_AL_fastRemove.1 ∈ zT := zU7 71 (by decide +kernel) rfl
theorem lk_L_201 : Cond.methodLink "PartlisterLaw" 201 m_M_remove.1 ∈ zT := zU7 75 (by decide +kernel) rfl
theorem lk_M_160 : Cond.methodLink "PartlisterModel" 160 m_M_isNoKey.1 ∈ zT := zU7 79 (by decide +kernel) rfl
theorem lk_M_163 : Cond.methodLink "PartlisterModel" 163 m_M_firstOf.1 ∈ zT := zU7 83 (by decide +kernel) rfl
theorem lk_L_204 : Cond.methodLink "PartlisterLaw" 204 m_M_removeAll.1 ∈ zT := zU7 87 (by decide +kernel) rfl
theorem lk_M_166 : Cond.methodLink "PartlisterModel" 166 m_M_areOne.1 ∈ zT := zU7 91 (by decide +kernel) rfl
theorem lk_M_169 : Cond.methodLink "PartlisterModel" 169 m_M_keys.1 ∈ zT := zU7 95 (by decide +kernel) rfl
theorem lk_M_173 : Cond.methodLink "PartlisterModel" 173 m_M_takeAll.1 ∈ zT := zU7 99 (by decide +kernel) rfl
theorem lk_L_207 : Cond.methodLink "PartlisterLaw" 207 m_M_retainAll.1 ∈ zT := zU7 104 (by decide +kernel) rfl
theorem lk_L_210 : Cond.methodLink "PartlisterLaw" 210 m_M_removeIf.1 ∈ zT := zU7 108 (by decide +kernel) rfl
theorem lk_L_214 : Cond.methodLink "PartlisterLaw" 214 m_M_clear.1 ∈ zT := zU7 112 (by decide +kernel) rfl
theorem lk_L_217 : Cond.methodLink "PartlisterLaw" 217 m_M_replaceAll.1 ∈ zT := zU7 116 (by decide +kernel) rfl
theorem lk_M_177 : Cond.methodLink "PartlisterModel" 177 m_M_endCursors.1 ∈ zT := zU7 120 (by decide +kernel) rfl
theorem lk_L_220 : Cond.methodLink "PartlisterLaw" 220 m_M_assign.1 ∈ zT := zU7 124 (by decide +kernel) rfl
theorem lk_L_224 : Cond.methodLink "PartlisterLaw" 224 m_M_pack.1 ∈ zT := zU7 128 (by decide +kernel) rfl
theorem lk_L_227 : Cond.methodLink "PartlisterLaw" 227 m_M_sort.1 ∈ zT := zU7 132 (by decide +kernel) rfl
theorem lk_M_184 : Cond.methodLink "PartlisterModel" 184 m_M_order.1 ∈ zT := zU7 136 (by decide +kernel) rfl
theorem lk_M_180 : Cond.methodLink "PartlisterModel" 180 m_M_ahead.1 ∈ zT := zU7 139 (by decide +kernel) rfl
theorem lk_M_188 : Cond.methodLink "PartlisterModel" 188 m_M_one.1 ∈ zT := zU7 142 (by decide +kernel) rfl
theorem lk_L_230 : Cond.methodLink "PartlisterLaw" 230 m_M_turn.1 ∈ zT := zU7 145 (by decide +kernel) rfl
theorem lk_L_233 : Cond.methodLink "PartlisterLaw" 233 m_M_move.1 ∈ zT := zU7 149 (by decide +kernel) rfl
theorem lk_M_192 : Cond.methodLink "PartlisterModel" 192 m_MA_floorMod.1 ∈ zT := zU7 153 (by decide +kernel) rfl
theorem lk_L_236 : Cond.methodLink "PartlisterLaw" 236 m_M_exchange.1 ∈ zT := zU7 154 (by decide +kernel) rfl
theorem lk_L_239 : Cond.methodLink "PartlisterLaw" 239 m_M_part.1 ∈ zT := zU7 158 (by decide +kernel) rfl
theorem lk_M_197 : Cond.methodLink "PartlisterModel" 197 m_M_freePart.1 ∈ zT := zU7 162 (by decide +kernel) rfl
theorem lk_MP_1 : Cond.methodLink "PartlisterModel$Part" 1 m_OJ_init.1 ∈ zT := zU7 170 (by decide +kernel) rfl
theorem lk_L_242 : Cond.methodLink "PartlisterLaw" 242 m_M_close.1 ∈ zT := zU7 181 (by decide +kernel) rfl
theorem lk_M_201 : Cond.methodLink "PartlisterModel" 201 m_M_isNoPart.1 ∈ zT := zU7 185 (by decide +kernel) rfl
theorem lk_L_245 : Cond.methodLink "PartlisterLaw" 245 m_M_cursor.1 ∈ zT := zU7 189 (by decide +kernel) rfl
theorem lk_M_204 : Cond.methodLink "PartlisterModel" 204 m_M_freeCursor.1 ∈ zT := zU7 193 (by decide +kernel) rfl
theorem lk_MC_3 : Cond.methodLink "PartlisterModel$Cursor" 3 m_OJ_init.1 ∈ zT := zU7 201 (by decide +kernel) rfl
theorem lk_L_248 : Cond.methodLink "PartlisterLaw" 248 m_M_next.1 ∈ zT := zU7 216 (by decide +kernel) rfl
theorem lk_M_214 : Cond.methodLink "PartlisterModel" 214 m_M_isNoCursor.1 ∈ zT := zU7 220 (by decide +kernel) rfl
theorem lk_M_217 : Cond.methodLink "PartlisterModel" 217 m_M_fault.1 ∈ zT := zU7 224 (by decide +kernel) rfl
theorem lk_L_251 : Cond.methodLink "PartlisterLaw" 251 m_M_previous.1 ∈ zT := zU7 228 (by decide +kernel) rfl
theorem lk_L_254 : Cond.methodLink "PartlisterLaw" 254 m_M_put.1 ∈ zT := zU7 232 (by decide +kernel) rfl
theorem lk_L_257 : Cond.methodLink "PartlisterLaw" 257 m_M_drop.1 ∈ zT := zU7 236 (by decide +kernel) rfl
theorem lk_L_260 : Cond.methodLink "PartlisterLaw" 260 m_M_insert.1 ∈ zT := zU8 0 (by decide +kernel) rfl
theorem lk_L_263 : Cond.methodLink "PartlisterLaw" 263 m_M_run.1 ∈ zT := zU8 4 (by decide +kernel) rfl
theorem lk_L_266 : Cond.methodLink "PartlisterLaw" 266 m_M_end.1 ∈ zT := zU8 8 (by decide +kernel) rfl
theorem lk_L_269 : Cond.methodLink "PartlisterLaw" 269 m_M_size.1 ∈ zT := zU8 12 (by decide +kernel) rfl
theorem lk_M_223 : Cond.methodLink "PartlisterModel" 223 m_M_sizeOf.1 ∈ zT := zU8 16 (by decide +kernel) rfl
theorem lk_L_272 : Cond.methodLink "PartlisterLaw" 272 m_M_key.1 ∈ zT := zU8 20 (by decide +kernel) rfl
theorem lk_L_275 : Cond.methodLink "PartlisterLaw" 275 m_M_tag.1 ∈ zT := zU8 24 (by decide +kernel) rfl
theorem lk_L_278 : Cond.methodLink "PartlisterLaw" 278 m_M_first.1 ∈ zT := zU8 28 (by decide +kernel) rfl
theorem lk_L_281 : Cond.methodLink "PartlisterLaw" 281 m_M_last.1 ∈ zT := zU8 32 (by decide +kernel) rfl
theorem lk_M_226 : Cond.methodLink "PartlisterModel" 226 m_M_lastOf.1 ∈ zT := zU8 36 (by decide +kernel) rfl
theorem lk_L_284 : Cond.methodLink "PartlisterLaw" 284 m_M_many.1 ∈ zT := zU8 40 (by decide +kernel) rfl
theorem lk_M_229 : Cond.methodLink "PartlisterModel" 229 m_M_manyOf.1 ∈ zT := zU8 44 (by decide +kernel) rfl
theorem lk_L_287 : Cond.methodLink "PartlisterLaw" 287 m_M_hasAll.1 ∈ zT := zU8 48 (by decide +kernel) rfl
theorem lk_M_235 : Cond.methodLink "PartlisterModel" 235 m_M_areNone.1 ∈ zT := zU8 52 (by decide +kernel) rfl
theorem lk_M_238 : Cond.methodLink "PartlisterModel" 238 m_M_hasEach.1 ∈ zT := zU8 56 (by decide +kernel) rfl
theorem lk_L_290 : Cond.methodLink "PartlisterLaw" 290 m_M_areApart.1 ∈ zT := zU8 60 (by decide +kernel) rfl
theorem lk_M_241 : Cond.methodLink "PartlisterModel" 241 m_M_hasNoneOf.1 ∈ zT := zU8 64 (by decide +kernel) rfl
theorem lk_L_293 : Cond.methodLink "PartlisterLaw" 293 m_M_isSame.1 ∈ zT := zU8 68 (by decide +kernel) rfl
theorem lk_M_244 : Cond.methodLink "PartlisterModel" 244 m_M_same.1 ∈ zT := zU8 72 (by decide +kernel) rfl
theorem lk_M_232 : Cond.methodLink "PartlisterModel" 232 m_M_liesAt.1 ∈ zT := zU8 76 (by decide +kernel) rfl
theorem lk_L_296 : Cond.methodLink "PartlisterLaw" 296 m_M_find.1 ∈ zT := zU8 80 (by decide +kernel) rfl
theorem lk_M_247 : Cond.methodLink "PartlisterModel" 247 m_M_found.1 ∈ zT := zU8 84 (by decide +kernel) rfl
theorem lk_L_299 : Cond.methodLink "PartlisterLaw" 299 m_M_spot.1 ∈ zT := zU8 88 (by decide +kernel) rfl
theorem lk_M_250 : Cond.methodLink "PartlisterModel" 250 m_M_isSorted.1 ∈ zT := zU8 92 (by decide +kernel) rfl
theorem lk_L_302 : Cond.methodLink "PartlisterLaw" 302 m_M_extreme.1 ∈ zT := zU8 96 (by decide +kernel) rfl
theorem lk_M_253 : Cond.methodLink "PartlisterModel" 253 m_M_extremeOf.1 ∈ zT := zU8 100 (by decide +kernel) rfl
theorem lk_L_305 : Cond.methodLink "PartlisterLaw" 305 m_M_hash.1 ∈ zT := zU8 104 (by decide +kernel) rfl
theorem lk_M_257 : Cond.methodLink "PartlisterModel" 257 m_M_hashOf.1 ∈ zT := zU8 108 (by decide +kernel) rfl
theorem lk_L_308 : Cond.methodLink "PartlisterLaw" 308 m_M_text.1 ∈ zT := zU8 112 (by decide +kernel) rfl
theorem lk_M_283 : Cond.methodLink "PartlisterModel" 283 m_M_textOf.1 ∈ zT := zU8 117 (by decide +kernel) rfl
theorem lk_M_262 : Cond.methodLink "PartlisterModel" 262 m_SB_init.1 ∈ zT := zU8 122 (by decide +kernel) rfl
theorem lk_M_267 : Cond.methodLink "PartlisterModel" 267 m_SB_append3.1 ∈ zT := zU8 124 (by decide +kernel) rfl
theorem lk_M_271 : Cond.methodLink "PartlisterModel" 271 m_SB_append2.1 ∈ zT := zU8 125 (by decide +kernel) rfl
theorem lk_M_274 : Cond.methodLink "PartlisterModel" 274 m_SB_append1.1 ∈ zT := zU8 126 (by decide +kernel) rfl
theorem lk_M_279 : Cond.methodLink "PartlisterModel" 279 m_SB_toString.1 ∈ zT := zU8 128 (by decide +kernel) rfl
theorem lk_L_311 : Cond.methodLink "PartlisterLaw" 311 m_M_ofPart.1 ∈ zT := zU8 129 (by decide +kernel) rfl
theorem lk_M_287 : Cond.methodLink "PartlisterModel" 287 m_M_partTold.1 ∈ zT := zU8 133 (by decide +kernel) rfl
theorem lk_L_314 : Cond.methodLink "PartlisterLaw" 314 m_M_ofCursor.1 ∈ zT := zU8 137 (by decide +kernel) rfl
theorem lk_M_290 : Cond.methodLink "PartlisterModel" 290 m_M_cursorTold.1 ∈ zT := zU8 141 (by decide +kernel) rfl
theorem lk_L_317 : Cond.methodLink "PartlisterLaw" 317 m_M_house.1 ∈ zT := zU8 145 (by decide +kernel) rfl
theorem lk_M_296 : Cond.methodLink "PartlisterModel" 296 m_M_houseTold.1 ∈ zT := zU8 149 (by decide +kernel) rfl
theorem lk_L_322 : Cond.methodLink "PartlisterLaw" 322 m_M_isSound.1 ∈ zT := zU8 153 (by decide +kernel) rfl
theorem lk_M_299 : Cond.methodLink "PartlisterModel" 299 m_M_isWhole.1 ∈ zT := zU8 157 (by decide +kernel) rfl
theorem lk_L_326 : Cond.methodLink "PartlisterLaw" 326 m_M_knock.1 ∈ zT := zU8 161 (by decide +kernel) rfl
theorem lk_L_331 : Cond.methodLink "PartlisterLaw" 331 m_M_digest.1 ∈ zT := zU8 165 (by decide +kernel) rfl
theorem lk_M_307 : Cond.methodLink "PartlisterModel" 307 m_M_add2.1 ∈ zT := zU8 170 (by decide +kernel) rfl
theorem lk_M_310 : Cond.methodLink "PartlisterModel" 310 m_ST_length.1 ∈ zT := zU8 174 (by decide +kernel) rfl
theorem lk_X_18 : Cond.methodLinkNest "Partlister" 18 m_U_init.1 "Partlister" ∈ zT := zU1 84 (by decide +kernel) rfl
theorem lk_I_47 : Cond.methodLinkNest "Partlister$Lists" 47 m_X_keyOf.1 "Partlister" ∈ zT := zU1 178 (by decide +kernel) rfl
theorem lk_I_82 : Cond.methodLinkNest "Partlister$Lists" 82 m_X_hasToBeAhead.1 "Partlister" ∈ zT := zU1 197 (by decide +kernel) rfl
theorem lk_L_172 : Cond.methodLinkNest "PartlisterLaw" 172 m_O_init.1 "PartlisterLaw" ∈ zT := zU2 108 (by decide +kernel) rfl
theorem lk_I_79 : Cond.methodLinkNest "Partlister$Lists" 79 m_X_tagOf.1 "Partlister" ∈ zT := zU3 214 (by decide +kernel) rfl
theorem lk_M_200 : Cond.methodLinkNest "PartlisterModel" 200 m_MP_init.1 "PartlisterModel" ∈ zT := zU7 167 (by decide +kernel) rfl
theorem lk_M_207 : Cond.methodLinkNest "PartlisterModel" 207 m_MC_init.1 "PartlisterModel" ∈ zT := zU7 198 (by decide +kernel) rfl
theorem fl_N_9 : zFl zCl "Partlister$Numbers" 9 2 0 (.array .int) true := ⟨"Partlister$Numbers", T_N, 1, "Partlister$Numbers", y_N, rfl, by decide, uw_N, zU1 51 (by decide +kernel) rfl, Or.inl rfl, ty_N, nm_N, rfl, rfl, by decide⟩
theorem fl_I_14 : zFl zCl "Partlister$Lists" 14 1 0 (.object "Partlister$Numbers") true := ⟨"Partlister$Lists", T_I, 7, "Partlister$Lists", y_I, rfl, by decide, uw_I, zU1 60 (by decide +kernel) rfl, Or.inl rfl, ty_I, nm_I, rfl, rfl, by decide⟩
theorem fl_I_20 : zFl zCl "Partlister$Lists" 20 1 1 (.object "Partlister$Numbers") true := ⟨"Partlister$Lists", T_I, 7, "Partlister$Lists", y_I, rfl, by decide, uw_I, zU1 61 (by decide +kernel) rfl, Or.inl rfl, ty_I, nm_I, rfl, rfl, by decide⟩
theorem fl_I_23 : zFl zCl "Partlister$Lists" 23 1 2 (.object "Partlister$Numbers") true := ⟨"Partlister$Lists", T_I, 7, "Partlister$Lists", y_I, rfl, by decide, uw_I, zU1 62 (by decide +kernel) rfl, Or.inl rfl, ty_I, nm_I, rfl, rfl, by decide⟩
theorem fl_I_26 : zFl zCl "Partlister$Lists" 26 1 3 (.object "Partlister$Numbers") true := ⟨"Partlister$Lists", T_I, 7, "Partlister$Lists", y_I, rfl, by decide, uw_I, zU1 63 (by decide +kernel) rfl, Or.inl rfl, ty_I, nm_I, rfl, rfl, by decide⟩
theorem fl_I_29 : zFl zCl "Partlister$Lists" 29 1 4 (.object "Partlister$Numbers") true := ⟨"Partlister$Lists", T_I, 7, "Partlister$Lists", y_I, rfl, by decide, uw_I, zU1 64 (by decide +kernel) rfl, Or.inl rfl, ty_I, nm_I, rfl, rfl, by decide⟩
theorem fl_I_32 : zFl zCl "Partlister$Lists" 32 1 5 (.object "Partlister$Numbers") true := ⟨"Partlister$Lists", T_I, 7, "Partlister$Lists", y_I, rfl, by decide, uw_I, zU1 65 (by decide +kernel) rfl, Or.inl rfl, ty_I, nm_I, rfl, rfl, by decide⟩
theorem fl_I_97 : zFl zCl "Partlister$Lists" 97 1 6 .int false := ⟨"Partlister$Lists", T_I, 7, "Partlister$Lists", y_I, rfl, by decide, uw_I, zU1 66 (by decide +kernel) rfl, Or.inl rfl, ty_I, nm_I, rfl, rfl, by decide⟩
theorem fl_U_14 : zFl zCl "Partlister$Cursors" 14 0 0 (.object "Partlister$Numbers") true := ⟨"Partlister$Cursors", T_U, 5, "Partlister$Cursors", y_U, rfl, by decide, uw_U, zU1 90 (by decide +kernel) rfl, Or.inl rfl, ty_U, nm_U, rfl, rfl, by decide⟩
theorem fl_U_20 : zFl zCl "Partlister$Cursors" 20 0 1 (.object "Partlister$Numbers") true := ⟨"Partlister$Cursors", T_U, 5, "Partlister$Cursors", y_U, rfl, by decide, uw_U, zU1 91 (by decide +kernel) rfl, Or.inl rfl, ty_U, nm_U, rfl, rfl, by decide⟩
theorem fl_U_23 : zFl zCl "Partlister$Cursors" 23 0 2 (.object "Partlister$Numbers") true := ⟨"Partlister$Cursors", T_U, 5, "Partlister$Cursors", y_U, rfl, by decide, uw_U, zU1 92 (by decide +kernel) rfl, Or.inl rfl, ty_U, nm_U, rfl, rfl, by decide⟩
theorem fl_U_26 : zFl zCl "Partlister$Cursors" 26 0 3 (.object "Partlister$Numbers") true := ⟨"Partlister$Cursors", T_U, 5, "Partlister$Cursors", y_U, rfl, by decide, uw_U, zU1 93 (by decide +kernel) rfl, Or.inl rfl, ty_U, nm_U, rfl, rfl, by decide⟩
theorem fl_U_54 : zFl zCl "Partlister$Cursors" 54 0 4 .int false := ⟨"Partlister$Cursors", T_U, 5, "Partlister$Cursors", y_U, rfl, by decide, uw_U, zU1 94 (by decide +kernel) rfl, Or.inl rfl, ty_U, nm_U, rfl, rfl, by decide⟩
theorem fl_X_10 : zFl zCl "Partlister" 10 3 0 (.object "Partlister$Lists") true := ⟨"Partlister", T_X, 5, "Partlister", y_X, rfl, by decide, uw_X, zU1 106 (by decide +kernel) rfl, Or.inl rfl, ty_X, nm_X, rfl, rfl, by decide⟩
theorem fl_X_19 : zFl zCl "Partlister" 19 3 1 (.object "Partlister$Cursors") true := ⟨"Partlister", T_X, 5, "Partlister", y_X, rfl, by decide, uw_X, zU1 107 (by decide +kernel) rfl, Or.inl rfl, ty_X, nm_X, rfl, rfl, by decide⟩
theorem fl_X_275 : zFl zCl "Partlister" 275 3 2 .int false := ⟨"Partlister", T_X, 5, "Partlister", y_X, rfl, by decide, uw_X, zU1 108 (by decide +kernel) rfl, Or.inl rfl, ty_X, nm_X, rfl, rfl, by decide⟩
theorem fl_X_302 : zFl zCl "Partlister" 302 3 3 .int false := ⟨"Partlister", T_X, 5, "Partlister", y_X, rfl, by decide, uw_X, zU1 109 (by decide +kernel) rfl, Or.inl rfl, ty_X, nm_X, rfl, rfl, by decide⟩
theorem fl_X_257 : zFl zCl "Partlister" 257 3 4 .int false := ⟨"Partlister", T_X, 5, "Partlister", y_X, rfl, by decide, uw_X, zU1 110 (by decide +kernel) rfl, Or.inl rfl, ty_X, nm_X, rfl, rfl, by decide⟩
theorem fl_AB_15 : zFl zCl "java/lang/AbstractStringBuilder" 15 10 0 (.array .byte) false := ⟨"java/lang/StringBuilder", T_SB, 4, "java/lang/AbstractStringBuilder", y_SB, rfl, by decide, uw_SB, zU5 7 (by decide +kernel) rfl, Or.inl rfl, ty_SB, nm_SB, rfl, rfl, by decide⟩
theorem fl_AB_22 : zFl zCl "java/lang/AbstractStringBuilder" 22 10 1 .byte false := ⟨"java/lang/StringBuilder", T_SB, 4, "java/lang/AbstractStringBuilder", y_SB, rfl, by decide, uw_SB, zU5 8 (by decide +kernel) rfl, Or.inl rfl, ty_SB, nm_SB, rfl, rfl, by decide⟩
theorem fl_ST_1048 : zFl zCl "java/lang/String" 1048 10 2 .boolean false := ⟨"java/lang/StringBuilder", T_SB, 4, "java/lang/AbstractStringBuilder", y_SB, rfl, by decide, uw_SB, zU5 9 (by decide +kernel) rfl, Or.inl rfl, ty_SB, nm_SB, rfl, rfl, by decide⟩
theorem fl_AB_79 : zFl zCl "java/lang/AbstractStringBuilder" 79 10 3 .int false := ⟨"java/lang/StringBuilder", T_SB, 4, "java/lang/AbstractStringBuilder", y_SB, rfl, by decide, uw_SB, zU5 10 (by decide +kernel) rfl, Or.inl rfl, ty_SB, nm_SB, rfl, rfl, by decide⟩
theorem fl_ST_9 : zFl zCl "java/lang/String" 9 8 0 (.array .byte) true := ⟨"java/lang/String", T_ST, 4, "java/lang/String", y_ST, rfl, by decide, uw_ST, zU6 3 (by decide +kernel) rfl, Or.inl rfl, ty_ST, nm_ST, rfl, rfl, by decide⟩
theorem fl_ST_15 : zFl zCl "java/lang/String" 15 8 1 .byte true := ⟨"java/lang/String", T_ST, 4, "java/lang/String", y_ST, rfl, by decide, uw_ST, zU6 4 (by decide +kernel) rfl, Or.inl rfl, ty_ST, nm_ST, rfl, rfl, by decide⟩
theorem fl_AL_9 : zFl zCl "java/util/ArrayList" 9 9 0 (.array (.object "java/lang/Object")) false := ⟨"java/util/ArrayList", T_AL, 3, "java/util/ArrayList", y_AL, rfl, by decide, uw_AL, zU6 59 (by decide +kernel) rfl, Or.inl rfl, ty_AL, nm_AL, rfl, rfl, by decide⟩
theorem fl_AL_48 : zFl zCl "java/util/ArrayList" 48 9 1 .int false := ⟨"java/util/ArrayList", T_AL, 3, "java/util/ArrayList", y_AL, rfl, by decide, uw_AL, zU6 60 (by decide +kernel) rfl, Or.inl rfl, ty_AL, nm_AL, rfl, rfl, by decide⟩
theorem fl_AY_7 : zFl zCl "java/util/AbstractList" 7 9 2 .int false := ⟨"java/util/ArrayList", T_AL, 3, "java/util/AbstractList", y_AL, rfl, by decide, uw_AL, zU6 61 (by decide +kernel) rfl, Or.inl rfl, ty_AL, nm_AL, rfl, rfl, by decide⟩
theorem fl_AL_63 : zFl zCl "java/util/ArrayList" 63 9 2 .int false := ⟨"java/util/ArrayList", T_AL, 3, "java/util/ArrayList", y_AL, rfl, by decide, uw_AL, zU6 62 (by decide +kernel) rfl, Or.inr (zU6 63 (by decide +kernel) rfl), ty_AL, nm_AL, rfl, rfl, by decide⟩
theorem fl_M_32 : zFl zCl "PartlisterModel" 32 6 0 .int false := ⟨"PartlisterModel", T_M, 9, "PartlisterModel", y_M, rfl, by decide, uw_M, zU6 121 (by decide +kernel) rfl, Or.inl rfl, ty_M, nm_M, rfl, rfl, by decide⟩
theorem fl_M_10 : zFl zCl "PartlisterModel" 10 6 1 (.object "java/util/ArrayList") true := ⟨"PartlisterModel", T_M, 9, "PartlisterModel", y_M, rfl, by decide, uw_M, zU6 122 (by decide +kernel) rfl, Or.inl rfl, ty_M, nm_M, rfl, rfl, by decide⟩
theorem fl_M_18 : zFl zCl "PartlisterModel" 18 6 2 (.array (.object "PartlisterModel$Part")) true := ⟨"PartlisterModel", T_M, 9, "PartlisterModel", y_M, rfl, by decide, uw_M, zU6 123 (by decide +kernel) rfl, Or.inl rfl, ty_M, nm_M, rfl, rfl, by decide⟩
theorem fl_M_24 : zFl zCl "PartlisterModel" 24 6 3 (.array (.object "PartlisterModel$Cursor")) true := ⟨"PartlisterModel", T_M, 9, "PartlisterModel", y_M, rfl, by decide, uw_M, zU6 124 (by decide +kernel) rfl, Or.inl rfl, ty_M, nm_M, rfl, rfl, by decide⟩
theorem fl_M_76 : zFl zCl "PartlisterModel" 76 6 4 .int false := ⟨"PartlisterModel", T_M, 9, "PartlisterModel", y_M, rfl, by decide, uw_M, zU6 125 (by decide +kernel) rfl, Or.inl rfl, ty_M, nm_M, rfl, rfl, by decide⟩
theorem fl_M_96 : zFl zCl "PartlisterModel" 96 6 5 .int false := ⟨"PartlisterModel", T_M, 9, "PartlisterModel", y_M, rfl, by decide, uw_M, zU6 126 (by decide +kernel) rfl, Or.inl rfl, ty_M, nm_M, rfl, rfl, by decide⟩
theorem fl_M_83 : zFl zCl "PartlisterModel" 83 6 6 .int false := ⟨"PartlisterModel", T_M, 9, "PartlisterModel", y_M, rfl, by decide, uw_M, zU6 127 (by decide +kernel) rfl, Or.inl rfl, ty_M, nm_M, rfl, rfl, by decide⟩
theorem fl_M_211 : zFl zCl "PartlisterModel" 211 6 7 .int false := ⟨"PartlisterModel", T_M, 9, "PartlisterModel", y_M, rfl, by decide, uw_M, zU6 128 (by decide +kernel) rfl, Or.inl rfl, ty_M, nm_M, rfl, rfl, by decide⟩
theorem fl_M_293 : zFl zCl "PartlisterModel" 293 6 8 .int false := ⟨"PartlisterModel", T_M, 9, "PartlisterModel", y_M, rfl, by decide, uw_M, zU6 129 (by decide +kernel) rfl, Or.inl rfl, ty_M, nm_M, rfl, rfl, by decide⟩
theorem fl_M_44 : zFl zCl "PartlisterModel" 44 5 0 .int false := ⟨"PartlisterModel$Part", T_MP, 3, "PartlisterModel$Part", y_MP, rfl, by decide, uw_MP, zU7 171 (by decide +kernel) rfl, Or.inl rfl, ty_MP, nm_MP, rfl, rfl, by decide⟩
theorem fl_M_51 : zFl zCl "PartlisterModel" 51 5 1 .int false := ⟨"PartlisterModel$Part", T_MP, 3, "PartlisterModel$Part", y_MP, rfl, by decide, uw_MP, zU7 172 (by decide +kernel) rfl, Or.inl rfl, ty_MP, nm_MP, rfl, rfl, by decide⟩
theorem fl_M_65 : zFl zCl "PartlisterModel" 65 5 2 .int false := ⟨"PartlisterModel$Part", T_MP, 3, "PartlisterModel$Part", y_MP, rfl, by decide, uw_MP, zU7 173 (by decide +kernel) rfl, Or.inl rfl, ty_MP, nm_MP, rfl, rfl, by decide⟩
theorem fl_M_89 : zFl zCl "PartlisterModel" 89 4 0 .int false := ⟨"PartlisterModel$Cursor", T_MC, 4, "PartlisterModel$Cursor", y_MC, rfl, by decide, uw_MC, zU7 202 (by decide +kernel) rfl, Or.inl rfl, ty_MC, nm_MC, rfl, rfl, by decide⟩
theorem fl_M_208 : zFl zCl "PartlisterModel" 208 4 1 .int false := ⟨"PartlisterModel$Cursor", T_MC, 4, "PartlisterModel$Cursor", y_MC, rfl, by decide, uw_MC, zU7 203 (by decide +kernel) rfl, Or.inl rfl, ty_MC, nm_MC, rfl, rfl, by decide⟩
theorem fl_MC_9 : zFl zCl "PartlisterModel$Cursor" 9 4 2 .int false := ⟨"PartlisterModel$Cursor", T_MC, 4, "PartlisterModel$Cursor", y_MC, rfl, by decide, uw_MC, zU7 204 (by decide +kernel) rfl, Or.inl rfl, ty_MC, nm_MC, rfl, rfl, by decide⟩
theorem fl_M_220 : zFl zCl "PartlisterModel" 220 4 2 .int false := ⟨"PartlisterModel$Cursor", T_MC, 4, "PartlisterModel$Cursor", y_MC, rfl, by decide, uw_MC, zU7 205 (by decide +kernel) rfl, Or.inl rfl, ty_MC, nm_MC, rfl, rfl, by decide⟩
theorem fl_M_99 : zFl zCl "PartlisterModel" 99 4 3 .boolean false := ⟨"PartlisterModel$Cursor", T_MC, 4, "PartlisterModel$Cursor", y_MC, rfl, by decide, uw_MC, zU7 206 (by decide +kernel) rfl, Or.inl rfl, ty_MC, nm_MC, rfl, rfl, by decide⟩
theorem ck_L_8 : Cond.classLink "PartlisterLaw" 8 "Partlister" ∈ zT := zU1 31 (by decide +kernel) rfl
theorem nc_L_8 : zNc zCl "PartlisterLaw" 8 3 5 := ⟨"Partlister", T_X, y_X, rfl, uw_X, ty_X, ck_L_8, zU1 32 (by decide +kernel) rfl, ini_X⟩
theorem ck_X_7 : Cond.classLink "Partlister" 7 "Partlister$Lists" ∈ zT := zU1 39 (by decide +kernel) rfl
theorem nc_X_7 : zNc zCl "Partlister" 7 1 7 := ⟨"Partlister$Lists", T_I, y_I, rfl, uw_I, ty_I, ck_X_7, zU1 40 (by decide +kernel) rfl, ini_I⟩
theorem ck_I_9 : Cond.classLink "Partlister$Lists" 9 "Partlister$Numbers" ∈ zT := zU1 45 (by decide +kernel) rfl
theorem nc_I_9 : zNc zCl "Partlister$Lists" 9 2 1 := ⟨"Partlister$Numbers", T_N, y_N, rfl, uw_N, ty_N, ck_I_9, zU1 46 (by decide +kernel) rfl, ini_N⟩
theorem ck_X_16 : Cond.classLink "Partlister" 16 "Partlister$Cursors" ∈ zT := zU1 82 (by decide +kernel) rfl
theorem nc_X_16 : zNc zCl "Partlister" 16 0 5 := ⟨"Partlister$Cursors", T_U, y_U, rfl, uw_U, ty_U, ck_X_16, zU1 83 (by decide +kernel) rfl, ini_U⟩
theorem ck_U_9 : Cond.classLink "Partlister$Cursors" 9 "Partlister$Numbers" ∈ zT := zU1 88 (by decide +kernel) rfl
theorem nc_U_9 : zNc zCl "Partlister$Cursors" 9 2 1 := ⟨"Partlister$Numbers", T_N, y_N, rfl, uw_N, ty_N, ck_U_9, zU1 46 (by decide +kernel) rfl, ini_N⟩
theorem ck_L_14 : Cond.classLink "PartlisterLaw" 14 "PartlisterLaw$Out" ∈ zT := zU2 106 (by decide +kernel) rfl
theorem nc_L_14 : zNc zCl "PartlisterLaw" 14 7 2 := ⟨"PartlisterLaw$Out", T_O, y_O, rfl, uw_O, ty_O, ck_L_14, zU2 107 (by decide +kernel) rfl, ini_O⟩
theorem ck_L_19 : Cond.classLink "PartlisterLaw" 19 "java/lang/IndexOutOfBoundsException" ∈ zT := zU2 122 (by decide +kernel) rfl
theorem ck_L_21 : Cond.classLink "PartlisterLaw" 21 "java/lang/IllegalArgumentException" ∈ zT := zU2 123 (by decide +kernel) rfl
theorem ck_L_23 : Cond.classLink "PartlisterLaw" 23 "java/lang/IllegalStateException" ∈ zT := zU2 124 (by decide +kernel) rfl
theorem ck_X_125 : Cond.classLink "Partlister" 125 "java/lang/IndexOutOfBoundsException" ∈ zT := zU2 133 (by decide +kernel) rfl
theorem ck_X_81 : Cond.classLink "Partlister" 81 "java/lang/IllegalArgumentException" ∈ zT := zU2 205 (by decide +kernel) rfl
theorem ck_X_134 : Cond.classLink "Partlister" 134 "java/lang/IllegalStateException" ∈ zT := zU2 226 (by decide +kernel) rfl
theorem ck_X_222 : Cond.classLink "Partlister" 222 "java/lang/StringBuilder" ∈ zT := zU4 229 (by decide +kernel) rfl
theorem nc_X_222 : zNc zCl "Partlister" 222 10 4 := ⟨"java/lang/StringBuilder", T_SB, y_SB, rfl, uw_SB, ty_SB, ck_X_222, zU4 230 (by decide +kernel) rfl, ini_SB⟩
theorem ck_AR_311 : Cond.classLink "java/util/Arrays" 311 "[B" ∈ zT := zU5 55 (by decide +kernel) rfl
theorem ck_SB_18 : Cond.classLink "java/lang/StringBuilder" 18 "java/lang/String" ∈ zT := zU5 153 (by decide +kernel) rfl
theorem nc_SB_18 : zNc zCl "java/lang/StringBuilder" 18 8 4 := ⟨"java/lang/String", T_ST, y_ST, rfl, uw_ST, ty_ST, ck_SB_18, zU5 154 (by decide +kernel) rfl, ini_ST⟩
theorem ck_AR_43 : Cond.classLink "java/util/Arrays" 43 "java/lang/IllegalArgumentException" ∈ zT := zU5 185 (by decide +kernel) rfl
theorem ck_AR_45 : Cond.classLink "java/util/Arrays" 45 "java/lang/StringBuilder" ∈ zT := zU5 186 (by decide +kernel) rfl
theorem nc_AR_45 : zNc zCl "java/util/Arrays" 45 10 4 := ⟨"java/lang/StringBuilder", T_SB, y_SB, rfl, uw_SB, ty_SB, ck_AR_45, zU4 230 (by decide +kernel) rfl, ini_SB⟩
theorem ck_L_169 : Cond.classLink "PartlisterLaw" 169 "PartlisterModel" ∈ zT := zU6 39 (by decide +kernel) rfl
theorem nc_L_169 : zNc zCl "PartlisterLaw" 169 6 9 := ⟨"PartlisterModel", T_M, y_M, rfl, uw_M, ty_M, ck_L_169, zU6 40 (by decide +kernel) rfl, ini_M⟩
theorem ck_M_7 : Cond.classLink "PartlisterModel" 7 "java/util/ArrayList" ∈ zT := zU6 45 (by decide +kernel) rfl
theorem nc_M_7 : zNc zCl "PartlisterModel" 7 9 3 := ⟨"java/util/ArrayList", T_AL, y_AL, rfl, uw_AL, ty_AL, ck_M_7, zU6 46 (by decide +kernel) rfl, ini_AL⟩
theorem ck_M_16 : Cond.classLink "PartlisterModel" 16 "PartlisterModel$Part" ∈ zT := zU6 71 (by decide +kernel) rfl
theorem nc_M_16 : zNc zCl "PartlisterModel" 16 5 3 := ⟨"PartlisterModel$Part", T_MP, y_MP, rfl, uw_MP, ty_MP, ck_M_16, zU7 166 (by decide +kernel) rfl, ini_MP⟩
theorem ck_M_22 : Cond.classLink "PartlisterModel" 22 "PartlisterModel$Cursor" ∈ zT := zU6 73 (by decide +kernel) rfl
theorem nc_M_22 : zNc zCl "PartlisterModel" 22 4 4 := ⟨"PartlisterModel$Cursor", T_MC, y_MC, rfl, uw_MC, ty_MC, ck_M_22, zU7 197 (by decide +kernel) rfl, ini_MC⟩
theorem ck_AR_110 : Cond.classLink "java/util/Arrays" 110 "[Ljava/lang/Object;" ∈ zT := zU6 116 (by decide +kernel) rfl
theorem ck_AR_2 : Cond.classLink "java/util/Arrays" 2 "java/lang/Object" ∈ zT := zU6 118 (by decide +kernel) rfl
theorem ck_AL_7 : Cond.classLink "java/util/ArrayList" 7 "java/lang/Object" ∈ zT := zU6 120 (by decide +kernel) rfl
theorem ck_AL_187 : Cond.classLink "java/util/ArrayList" 187 "java/lang/IndexOutOfBoundsException" ∈ zT := zU6 224 (by decide +kernel) rfl
theorem ck_AL_20 : Cond.classLink "java/util/ArrayList" 20 "java/lang/StringBuilder" ∈ zT := zU6 229 (by decide +kernel) rfl
theorem nc_AL_20 : zNc zCl "java/util/ArrayList" 20 10 4 := ⟨"java/lang/StringBuilder", T_SB, y_SB, rfl, uw_SB, ty_SB, ck_AL_20, zU4 230 (by decide +kernel) rfl, ini_SB⟩
theorem ck_M_72 : Cond.classLink "PartlisterModel" 72 "[I" ∈ zT := zU7 38 (by decide +kernel) rfl
theorem ck_M_260 : Cond.classLink "PartlisterModel" 260 "java/lang/StringBuilder" ∈ zT := zU8 121 (by decide +kernel) rfl
theorem nc_M_260 : zNc zCl "PartlisterModel" 260 10 4 := ⟨"java/lang/StringBuilder", T_SB, y_SB, rfl, uw_SB, ty_SB, ck_M_260, zU4 230 (by decide +kernel) rfl, ini_SB⟩
theorem ac_i : Cond.arrayClass (.int) ∈ zT := zU1 55 (by decide +kernel) rfl
theorem ac_b : Cond.arrayClass (.byte) ∈ zT := zU2 200 (by decide +kernel) rfl
theorem ac_z : Cond.arrayClass (.boolean) ∈ zT := zU7 103 (by decide +kernel) rfl
theorem ao_MP : Cond.arrayOver (.object "PartlisterModel$Part") ∈ zT := zU6 72 (by decide +kernel) rfl
theorem ao_MC : Cond.arrayOver (.object "PartlisterModel$Cursor") ∈ zT := zU6 74 (by decide +kernel) rfl
theorem ao_OJ : Cond.arrayOver (.object "java/lang/Object") ∈ zT := zU6 117 (by decide +kernel) rfl
