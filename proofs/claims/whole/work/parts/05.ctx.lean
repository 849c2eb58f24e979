/-! WHAT IS GIVEN OF THE TABLES, for every method alike: pz_U, the words that last; pz_NM, the links to private members of nest mates; pz_ty, the array classes by their tags. -/
def pz_U : List Cond := lw_tbl.filter goodWord
theorem pz_in {w : Cond} (i : Nat) (h : lw_tbl[i]? = some w) (g : goodWord w = true) : w ∈ pz_U := List.mem_filter.mpr ⟨List.mem_of_getElem? h, g⟩
theorem pz_good : ∀ w ∈ pz_U, (w.onTables && w.keeps) = true ∨ ∃ ty, w = .arrayClass ty := fun _ h => good_of_word (List.mem_filter.mp h).2
def pz_ty : List FieldType := [.int, .long, .object "CreaseFlat$Paper", .array .int, .boolean]
def pz_NF : List (String × Nat × String × String × String × String) := []
def pz_NM : List (String × Nat × MethodName × String) := [("CreaseFlat", 21, ⟨"CreaseFlat$Pile", "<init>", "()V"⟩, "CreaseFlat"), ("CreaseFlat", 55, ⟨"CreaseFlat$Lay", "<init>", "()V"⟩, "CreaseFlat"), ("CreaseFlat", 62, ⟨"CreaseFlat$Ways", "<init>", "()V"⟩, "CreaseFlat"), ("CreaseFlat$Pile", 60, ⟨"CreaseFlat", "has", "(II)Z"⟩, "CreaseFlat"), ("CreaseFlat$Paper", 112, ⟨"CreaseFlat", "has", "(II)Z"⟩, "CreaseFlat"), ("CreaseFlat$Lay", 31, ⟨"CreaseFlat", "has", "(II)Z"⟩, "CreaseFlat"), ("CreaseFlat$Ways", 51, ⟨"CreaseFlat", "has", "(II)Z"⟩, "CreaseFlat")]
def pz_AO : List String := ["CreaseFlat$Paper"]
