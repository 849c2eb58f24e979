/-! WHAT IS GIVEN OF THE TABLES, for every method alike: pz_U, the words that last; pz_NM, the links to private members of nest mates; pz_ty, the array classes by their tags. -/
def pz_U : List Cond := lw_tbl.filter goodWord
theorem pz_in {w : Cond} (i : Nat) (h : lw_tbl[i]? = some w) (g : goodWord w = true) : w ∈ pz_U := List.mem_filter.mpr ⟨List.mem_of_getElem? h, g⟩
theorem pz_good : ∀ w ∈ pz_U, (w.onTables && w.keeps) = true ∨ ∃ ty, w = .arrayClass ty := fun _ h => good_of_word (List.mem_filter.mp h).2
def pz_ty : List FieldType := [.int, .long, .object "CreaseFlat$Paper", .array .int, .boolean]
def pz_NF : List (String × Nat × String × String × String × String) := []
def pz_NM : List (String × Nat × MethodName × String) := [("CreaseFlat", 21, ⟨"CreaseFlat$Pile", "<init>", "()V"⟩, "CreaseFlat"), ("CreaseFlat", 55, ⟨"CreaseFlat$Lay", "<init>", "()V"⟩, "CreaseFlat"), ("CreaseFlat", 62, ⟨"CreaseFlat$Ways", "<init>", "()V"⟩, "CreaseFlat"), ("CreaseFlat$Pile", 60, ⟨"CreaseFlat", "has", "(II)Z"⟩, "CreaseFlat"), ("CreaseFlat$Paper", 112, ⟨"CreaseFlat", "has", "(II)Z"⟩, "CreaseFlat"), ("CreaseFlat$Lay", 31, ⟨"CreaseFlat", "has", "(II)Z"⟩, "CreaseFlat"), ("CreaseFlat$Ways", 51, ⟨"CreaseFlat", "has", "(II)Z"⟩, "CreaseFlat")]
def pz_AO : List String := ["CreaseFlat$Paper"]
abbrev pz_M : Type := MethodName × ByteArray × Nat × Option FieldType
/-- a link to a field: class ci, field k; and what a store to it needs (fin: it is final, and the storing method is a constructor) -/
def pz_FL (own : String) (idx ci k : Nat) : Prop := ∃ (C : String) (T : u_T) (N : Nat), vwCl[ci]? = some (C, T, N) ∧ k < N ∧ (∀ w ∈ u_ws C T N, w ∈ pz_U) ∧ Cond.fieldLink own idx (T k).1 (T k).2.1 (T k).2.2.1 ∈ pz_U
def pz_FP (own : String) (idx ci k : Nat) (ty : FieldType) (fin : Bool) : Prop := ∃ (C : String) (T : u_T) (N : Nat) (ty0 : Nat → FieldType), vwCl[ci]? = some (C, T, N) ∧ k < N ∧ (∀ w ∈ u_ws C T N, w ∈ pz_U) ∧ Cond.fieldLink own idx (T k).1 (T k).2.1 (T k).2.2.1 ∈ pz_U ∧ (∀ k, k < N → parseFieldDescriptor (T k).2.2.1 = some (ty0 k)) ∧ (∀ a, a < N → ∀ b, b < N → a ≠ b → (T a).2.1 ≠ (T b).2.1) ∧ (T k).2.2.2 = fin ∧ parseFieldDescriptor (T k).2.2.1 = some ty ∧ (fin = true → (T k).1 = own)
def pz_MF (M : pz_M) (n : Nat) : Prop := Cond.code M.1 M.2.1 M.2.2.1 M.2.2.2 ∈ pz_U ∧ Cond.initialized M.1.cls ∈ pz_U ∧ (M.1.cls ≠ "java/lang/invoke/MethodHandle" ∧ M.1.cls ≠ "java/lang/invoke/VarHandle" ∧ (parseMethodDescriptor M.1.desc).map (fun d => d.parameters.length) = some n) ∧ M.2.2.1 ≤ 19
