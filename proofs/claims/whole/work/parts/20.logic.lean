/-! A SMALL PROGRAM LOGIC OVER W. Every cell that was made since the law's start (from address X.2.2 on) is ours: a heap is held as a pure function h = (cells by address, size). pz_W Ψ X M d pc lv st h rc rs Q: from here method M returns r with heap h', and Q r h'; d frames, rc cells and rs slots are still to be had. pz_Call: the same of a whole method. -/
abbrev pz_E : Type := (Nat × vp_A) ⊕ (Nat × List Value)
abbrev pz_H : Type := (Nat → Option pz_E) × Nat
abbrev pz_X : Type := va_G × (Nat → ClassId) × Nat
def pz_cv (d : Nat → ClassId) (c : pz_E) : va_E := match c with
  | .inl a => .inl (d a.1, a.2)
  | .inr o => .inr o
def pz_R (X : pz_X) (h : pz_H) (H : Heap) : Prop := H.size = h.2 ∧ X.2.2 ≤ h.2 ∧ ∀ (q : Nat) (c : pz_E), h.1 q = some c → X.2.2 ≤ q ∧ va_at X.1 vwCl (q, pz_cv X.2.1 c) H
def pz_kt (X : pz_X) : List (ClassId × FieldType) := (List.range pz_ty.length).map (fun t => (X.2.1 t, pz_ty.getD t .int))
def pz_K (X : pz_X) (U : State) : Prop := va_K X.1 vwCl (pz_kt X) U ∧ (∀ q ∈ pz_NF, va_Nw (.fieldLinkNest q.1 q.2.1 q.2.2.1 q.2.2.2.1 q.2.2.2.2.1 q.2.2.2.2.2) U) ∧ (∀ q ∈ pz_NM, va_Nw (.methodLinkNest q.1 q.2.1 q.2.2.1 q.2.2.2) U) ∧ (∀ C ∈ pz_AO, va_AO C U) ∧ ∃ kA : Class, U.vm.classes[X.2.1 3]? = some kA ∧ kA.kind = .array (X.2.1 0) (.array .int)
def pz_C (M : pz_M) (d : Nat) (X : pz_X) (p : Program) (R : Room) (s : State) (m : MethodId) (args : Array Value) (meth : Method) (c : Code) : Prop :=
  p.tables.exec = Jvm.exec ∧ c.code = M.2.1 ∧ c.maxLocals = M.2.2.1 ∧ s.vm.findClass M.1.cls = some m.cls ∧ (∀ w ∈ pz_U, w.before args s = true) ∧ pz_K X s ∧ (M.1.name = "<init>" → meth.name = "<init>") ∧ d ≤ R.frames ∧ 38 * d ≤ R.locals
def pz_rt (M : pz_M) (pc : Nat) (r : Option Value) : Prop := match r with
  | none => M.2.2.2 = none ∧ decode M.2.1 pc = .ok (.return_, 1)
  | some (.int v) => ∃ ty, M.2.2.2 = some ty ∧ narrow ty (.int v) = .int v ∧ decode M.2.1 pc = .ok (.ireturn, 1)
  | some (.long _) => M.2.2.2 = some .long ∧ decode M.2.1 pc = .ok (.lreturn, 1)
  | some (.ref _) => (∃ rt, M.2.2.2 = some rt ∧ ((∃ n, rt = .object n) ∨ ∃ t, rt = .array t)) ∧ decode M.2.1 pc = .ok (.areturn, 1)
  | some .null => (∃ rt, M.2.2.2 = some rt ∧ ((∃ n, rt = .object n) ∨ ∃ t, rt = .array t)) ∧ decode M.2.1 pc = .ok (.areturn, 1)
  | _ => False
abbrev pz_A (X : pz_X) : Nat → Prop := fun q => X.2.2 ≤ q
def pz_I (X : pz_X) (M : pz_M) (d : Nat) (h : pz_H) (rc rs : Nat) (Q : Option Value → pz_H → Prop) (p : Program) (l : Launch) (e : Env) (R : Room) (s : State) (m : MethodId) (args : Array Value) (below : List Frame) (meth : Method) (c : Code) (Z : State → Prop) (H : Heap) (locs : List Loc) (cells slots : Nat) : Prop :=
  pz_C M d X p R s m args meth c ∧ X.2.2 ≤ s.heap.size ∧
  (∀ (r : Option Value) (h' : pz_H) (H' : Heap) (locs' : List Loc) (pc' : Nat) (ls' : Array Slot), Q r h' → pz_R X h' H' → va_S (pz_A X) s.heap H' locs' → pz_rt M pc' r → W p l e R s m args below meth c H' locs' R.cells R.slots Z (F0 m pc' ls' r.toList)) ∧
  pz_R X h H ∧ va_S (pz_A X) s.heap H locs ∧ cells + rc ≤ R.cells ∧ slots + rs ≤ R.slots
def pz_W (Ψ : State → Prop) (X : pz_X) (M : pz_M) (d pc : Nat) (lv : List (Nat × Value)) (st : List Value) (h : pz_H) (rc rs : Nat) (Q : Option Value → pz_H → Prop) : Prop :=
  ∀ (p : Program) (l : Launch) (e : Env) (R : Room) (s : State) (m : MethodId) (args : Array Value) (below : List Frame) (meth : Method) (c : Code) (Z : State → Prop) (H : Heap) (locs : List Loc) (cells slots : Nat) (ls : Array Slot),
    Ψ s → pz_I X M d h rc rs Q p l e R s m args below meth c Z H locs cells slots → lv_has ls M.2.2.1 lv → W p l e R s m args below meth c H locs cells slots Z (F0 m pc ls st)
def pz_rm (d mc ms : Nat) : Room := { frames := d, cells := mc, slots := ms, locals := 38 * d }
def pz_Pc (X : pz_X) (as : List Value) (h : pz_H) : Array Value → State → Prop := va_Pc as (fun U => pz_R X h U.heap ∧ pz_K X U)
def pz_Qc (X : pz_X) (Q : Option Value → pz_H → Prop) : Array Value → State → Outcome → State → Prop := fun _ st o t => (∃ (r : Option Value) (h' : pz_H), o = .returned r ∧ Q r h' ∧ pz_R X h' t.heap) ∧ va_F (pz_A X) st t
def pz_ws (M : pz_M) : List Cond := .code M.1 M.2.1 M.2.2.1 M.2.2.2 :: pz_U
def pz_Call (X : pz_X) (M : pz_M) (d mc ms : Nat) (as : List Value) (h : pz_H) (Q : Option Value → pz_H → Prop) : Prop :=
  ∀ l : Launch, Met l M.1 (pz_ws M) (pz_rm d mc ms) (pz_Pc X as h) (pz_Qc X Q) mc ms (pz_A X)
def pz_up (h : pz_H) (a : Nat) (c : pz_E) : pz_H := (va_up h.1 a (some c), h.2)
def pz_nw (h : pz_H) (c : pz_E) : pz_H := (va_up h.1 h.2 (some c), h.2 + 1)
theorem pz_up_at {h : pz_H} {a : Nat} {c : pz_E} : (pz_up h a c).1 a = some c := va_up_self _ _ _
theorem pz_up_ne {h : pz_H} {a b : Nat} {c : pz_E} (hb : b ≠ a) : (pz_up h a c).1 b = h.1 b := va_up_ne _ _ hb
theorem pz_nw_at {h : pz_H} {c : pz_E} : (pz_nw h c).1 h.2 = some c := va_up_self _ _ _
theorem pz_nw_ne {h : pz_H} {b : Nat} {c : pz_E} (hb : b ≠ h.2) : (pz_nw h c).1 b = h.1 b := va_up_ne _ _ hb
theorem pz_R.lt {X : pz_X} {h : pz_H} {H : Heap} (hR : pz_R X h H) {q : Nat} {c : pz_E} (hq : h.1 q = some c) : q < h.2 := by
  have h1 := (hR.2.2 q c hq).2.lt
  rw [hR.1] at h1
  exact h1
theorem pz_R.set {X : pz_X} {h : pz_H} {H H1 : Heap} {a : Nat} {c0 c : pz_E} (hR : pz_R X h H) (hG : h.1 a = some c0) (he : va_at X.1 vwCl (a, pz_cv X.2.1 c) H1) (z : H1.size = H.size) (oq : ∀ q : Nat, q ≠ a → H1[q]? = H[q]?) : pz_R X (pz_up h a c) H1 := by
  refine ⟨z.trans hR.1, hR.2.1, fun q c1 hq => ?_⟩
  by_cases hqa : q = a
  · subst hqa
    rw [pz_up_at] at hq
    cases hq
    exact ⟨(hR.2.2 _ _ hG).1, he⟩
  · rw [pz_up_ne hqa] at hq
    obtain ⟨h1, h2⟩ := hR.2.2 q c1 hq
    exact ⟨h1, h2.kept (oq q hqa)⟩
theorem pz_R.push {X : pz_X} {h : pz_H} {H H1 : Heap} {c : pz_E} (hR : pz_R X h H) (he : va_at X.1 vwCl (h.2, pz_cv X.2.1 c) H1) (z : H1.size = h.2 + 1) (o : ∀ q : Nat, q < h.2 → H1[q]? = H[q]?) : pz_R X (pz_nw h c) H1 := by
  refine ⟨z, Nat.le_trans hR.2.1 (Nat.le_succ _), fun q c1 hq => ?_⟩
  by_cases hqa : q = h.2
  · subst hqa
    rw [pz_nw_at] at hq
    cases hq
    exact ⟨hR.2.1, he⟩
  · rw [pz_nw_ne hqa] at hq
    obtain ⟨h1, h2⟩ := hR.2.2 q c1 hq
    exact ⟨h1, h2.kept (o q (hR.lt hq))⟩
theorem pz_kt_at (X : pz_X) {t : Nat} {ty : FieldType} (ht : pz_ty[t]? = some ty) : (pz_kt X)[t]? = some (X.2.1 t, ty) := by
  have hl : t < pz_ty.length := (List.getElem?_eq_some_iff.mp ht).1
  simp only [pz_kt, List.getElem?_map, List.getElem?_range hl, Option.map_some, List.getD_eq_getElem?_getD, ht, Option.getD_some]
theorem pz_K3 {X : pz_X} {s U : State} (hvm : s.vm.Alike U.vm) (h : ∃ kA : Class, s.vm.classes[X.2.1 3]? = some kA ∧ kA.kind = .array (X.2.1 0) (.array .int)) : ∃ kA : Class, U.vm.classes[X.2.1 3]? = some kA ∧ kA.kind = .array (X.2.1 0) (.array .int) := by
  obtain ⟨kA, h1, h2⟩ := h
  obtain ⟨k', hk', he⟩ := hvm.2.2 _ _ h1
  exact ⟨k', hk', by rw [he]; exact h2⟩
theorem pz_K.warm {X : pz_X} {s U : State} (hW : s.WarmedH U.vm) (h : pz_K X s) : pz_K X U :=
  ⟨va_K.moved hW.alike h.1, fun q hq => va_Nw.warmF hW (h.2.1 q hq), fun q hq => va_Nw.warmM hW (h.2.2.1 q hq), fun C hC => va_AO.moved hW.alike (h.2.2.2.1 C hC), pz_K3 hW.alike h.2.2.2.2⟩
theorem pz_K.same {X : pz_X} {s U : State} (hvm : s.vm = U.vm) (h : pz_K X s) : pz_K X U :=
  ⟨va_K.moved (by rw [hvm]; exact Vm.Alike.refl U.vm) h.1, fun q hq => va_Nw.same rfl hvm (h.2.1 q hq), fun q hq => va_Nw.same rfl hvm (h.2.2.1 q hq), fun C hC => va_AO.moved (by rw [hvm]; exact Vm.Alike.refl U.vm) (h.2.2.2.1 C hC), pz_K3 (by rw [hvm]; exact Vm.Alike.refl U.vm) h.2.2.2.2⟩
theorem lv_has.sub {ls : Array Slot} {n : Nat} {l l' : List (Nat × Value)} (h : lv_has ls n l) (hs : ∀ q ∈ l', q ∈ l) : lv_has ls n l' := ⟨h.1, h.2.1, fun q hq => h.2.2 q (hs q hq)⟩
/-- the locals, by their numbers -/
def pz_lk : List (Nat × Value) → Nat → Option Value
  | [], _ => none
  | q :: l, i => if q.1 = i then some q.2 else pz_lk l i
theorem pz_lk_mem : ∀ {l : List (Nat × Value)} {i : Nat} {v : Value}, pz_lk l i = some v → (i, v) ∈ l
  | [], _, _, h => by cases h
  | q :: l, i, v, h => by
    unfold pz_lk at h
    by_cases hq : q.1 = i
    · rw [if_pos hq] at h
      cases h
      rw [← hq]
      exact List.mem_cons_self
    · rw [if_neg hq] at h
      exact List.mem_cons_of_mem _ (pz_lk_mem h)
def pz_ins (i : Nat) (v : Value) : List (Nat × Value) → List (Nat × Value)
  | [] => [(i, v)]
  | q :: l => if i < q.1 then (i, v) :: q :: l else q :: pz_ins i v l
theorem pz_ins_mem {i : Nat} {v : Value} : ∀ {l : List (Nat × Value)} {q : Nat × Value}, q ∈ pz_ins i v l → q ∈ (i, v) :: l
  | [], q, h => h
  | a :: l, q, h => by
    unfold pz_ins at h
    split at h
    · exact h
    · rcases List.mem_cons.mp h with h | h
      · rw [h]; exact List.mem_cons_of_mem _ List.mem_cons_self
      · rcases List.mem_cons.mp (pz_ins_mem h) with h | h
        · rw [h]; exact List.mem_cons_self
        · exact List.mem_cons_of_mem _ (List.mem_cons_of_mem _ h)
def pz_set1 (i : Nat) (v : Value) (l : List (Nat × Value)) : List (Nat × Value) := pz_ins i v (l.filter (fun q => !(q.1 == i) && !(q.1 + 1 == i && q.2.category == 2)))
def pz_set2 (i : Nat) (v : Value) (l : List (Nat × Value)) : List (Nat × Value) := pz_ins i v (l.filter (fun q => !(q.1 == i) && (!(q.1 == i + 1) && !(q.1 + 1 == i && q.2.category == 2))))
/-- the part of the locals that is wanted further on -/
def pz_part (l : List (Nat × Value)) (l' : List (Nat × Value)) : Prop := ∀ q ∈ l', q ∈ l
theorem pz_part_of {l l' : List (Nat × Value)} (is : List Nat) (h : is.filterMap (fun i => (pz_lk l i).map (fun v => (i, v))) = l') : pz_part l l' := by
  intro q hq
  rw [← h] at hq
  obtain ⟨i, -, hi⟩ := List.mem_filterMap.mp hq
  cases hv : pz_lk l i with
  | none => rw [hv] at hi; cases hi
  | some v => rw [hv] at hi; cases hi; exact pz_lk_mem hv
section PZR
variable {Ψ : State → Prop} {X : pz_X} {M : pz_M} {d pc rc rs : Nat} {lv lv' : List (Nat × Value)} {st : List Value} {h : pz_H} {Q : Option Value → pz_H → Prop}
theorem pz_drop (hs : pz_part lv lv') (kk : pz_W Ψ X M d pc lv' st h rc rs Q) : pz_W Ψ X M d pc lv st h rc rs Q := by
  intro p l e R s m args below meth c Z H locs cells slots ls hΨ I hL
  exact kk p l e R s m args below meth c Z H locs cells slots ls hΨ I (hL.sub hs)
theorem pz_iconst {n : Int} {v : Int32} (hdg : decode M.2.1 pc = .ok (.iconst n, 1)) (hv : Int32.ofInt n = v) (kk : pz_W Ψ X M d (pc + 1) lv (.int v :: st) h rc rs Q) : pz_W Ψ X M d pc lv (st) h rc rs Q := by
  intro p l e R s m args below meth c Z H locs cells slots ls hΨ I hL
  exact lv_iconst I.1.1 I.1.2.1 hdg hv (kk p l e R s m args below meth c Z H locs cells slots ls hΨ I hL)
theorem pz_bipush {n : Int} {v : Int32} (hdg : decode M.2.1 pc = .ok (.bipush n, 2)) (hv : (Int8.ofInt n).toInt32 = v) (kk : pz_W Ψ X M d (pc + 2) lv (.int v :: st) h rc rs Q) : pz_W Ψ X M d pc lv (st) h rc rs Q := by
  intro p l e R s m args below meth c Z H locs cells slots ls hΨ I hL
  exact lv_bipush I.1.1 I.1.2.1 hdg hv (kk p l e R s m args below meth c Z H locs cells slots ls hΨ I hL)
theorem pz_sipush {n : Int} {v : Int32} (hdg : decode M.2.1 pc = .ok (.sipush n, 3)) (hv : (Int16.ofInt n).toInt32 = v) (kk : pz_W Ψ X M d (pc + 3) lv (.int v :: st) h rc rs Q) : pz_W Ψ X M d pc lv (st) h rc rs Q := by
  intro p l e R s m args below meth c Z H locs cells slots ls hΨ I hL
  exact lv_sipush I.1.1 I.1.2.1 hdg hv (kk p l e R s m args below meth c Z H locs cells slots ls hΨ I hL)
theorem pz_lconst {n : Fin 2} {v : Int64} (hdg : decode M.2.1 pc = .ok (.lconst n, 1)) (hv : Int64.ofNat (n : Nat) = v) (kk : pz_W Ψ X M d (pc + 1) lv (.long v :: st) h rc rs Q) : pz_W Ψ X M d pc lv (st) h rc rs Q := by
  intro p l e R s m args below meth c Z H locs cells slots ls hΨ I hL
  exact lv_lconst I.1.1 I.1.2.1 hdg hv (kk p l e R s m args below meth c Z H locs cells slots ls hΨ I hL)
theorem pz_null  (hdg : decode M.2.1 pc = .ok (.aconst_null, 1))  (kk : pz_W Ψ X M d (pc + 1) lv (.null :: st) h rc rs Q) : pz_W Ψ X M d pc lv (st) h rc rs Q := by
  intro p l e R s m args below meth c Z H locs cells slots ls hΨ I hL
  exact lv_null I.1.1 I.1.2.1 hdg (kk p l e R s m args below meth c Z H locs cells slots ls hΨ I hL)
theorem pz_iload_n {k : Fin 4} {x : Int32} (hdg : decode M.2.1 pc = .ok (.iload_n k, 1)) (hl : pz_lk lv (k : Nat) = some (.int x)) (kk : pz_W Ψ X M d (pc + 1) lv (.int x :: st) h rc rs Q) : pz_W Ψ X M d pc lv (st) h rc rs Q := by
  intro p l e R s m args below meth c Z H locs cells slots ls hΨ I hL
  exact lv_iload_n I.1.1 I.1.2.1 hdg rfl (hL.2.2 _ (pz_lk_mem hl)) (kk p l e R s m args below meth c Z H locs cells slots ls hΨ I hL)
theorem pz_iload {i : Nat} {x : Int32} (hdg : decode M.2.1 pc = .ok (.iload i, 2)) (hl : pz_lk lv i = some (.int x)) (kk : pz_W Ψ X M d (pc + 2) lv (.int x :: st) h rc rs Q) : pz_W Ψ X M d pc lv (st) h rc rs Q := by
  intro p l e R s m args below meth c Z H locs cells slots ls hΨ I hL
  exact lv_iload I.1.1 I.1.2.1 hdg (hL.2.2 _ (pz_lk_mem hl)) (kk p l e R s m args below meth c Z H locs cells slots ls hΨ I hL)
theorem pz_lload_n {k : Fin 4} {x : Int64} (hdg : decode M.2.1 pc = .ok (.lload_n k, 1)) (hl : pz_lk lv (k : Nat) = some (.long x)) (kk : pz_W Ψ X M d (pc + 1) lv (.long x :: st) h rc rs Q) : pz_W Ψ X M d pc lv (st) h rc rs Q := by
  intro p l e R s m args below meth c Z H locs cells slots ls hΨ I hL
  exact lv_lload_n I.1.1 I.1.2.1 hdg rfl (hL.2.2 _ (pz_lk_mem hl)) (kk p l e R s m args below meth c Z H locs cells slots ls hΨ I hL)
theorem pz_lload {i : Nat} {x : Int64} (hdg : decode M.2.1 pc = .ok (.lload i, 2)) (hl : pz_lk lv i = some (.long x)) (kk : pz_W Ψ X M d (pc + 2) lv (.long x :: st) h rc rs Q) : pz_W Ψ X M d pc lv (st) h rc rs Q := by
  intro p l e R s m args below meth c Z H locs cells slots ls hΨ I hL
  exact lv_lload I.1.1 I.1.2.1 hdg (hL.2.2 _ (pz_lk_mem hl)) (kk p l e R s m args below meth c Z H locs cells slots ls hΨ I hL)
theorem pz_aload_n {k : Fin 4} {x : Nat} (hdg : decode M.2.1 pc = .ok (.aload_n k, 1)) (hl : pz_lk lv (k : Nat) = some (.ref x)) (kk : pz_W Ψ X M d (pc + 1) lv (.ref x :: st) h rc rs Q) : pz_W Ψ X M d pc lv (st) h rc rs Q := by
  intro p l e R s m args below meth c Z H locs cells slots ls hΨ I hL
  exact lv_aload_n I.1.1 I.1.2.1 hdg rfl (hL.2.2 _ (pz_lk_mem hl)) (kk p l e R s m args below meth c Z H locs cells slots ls hΨ I hL)
theorem pz_aload {i : Nat} {x : Nat} (hdg : decode M.2.1 pc = .ok (.aload i, 2)) (hl : pz_lk lv i = some (.ref x)) (kk : pz_W Ψ X M d (pc + 2) lv (.ref x :: st) h rc rs Q) : pz_W Ψ X M d pc lv (st) h rc rs Q := by
  intro p l e R s m args below meth c Z H locs cells slots ls hΨ I hL
  exact lv_aload I.1.1 I.1.2.1 hdg (hL.2.2 _ (pz_lk_mem hl)) (kk p l e R s m args below meth c Z H locs cells slots ls hΨ I hL)
theorem pz_istore_n {k : Fin 4} {i : Nat} {x : Int32} (hdg : decode M.2.1 pc = .ok (.istore_n k, 1)) (hi : (k : Nat) = i) (hn : i < M.2.2.1) (hl : pz_set1 i (.int x) lv = lv') (kk : pz_W Ψ X M d (pc + 1) lv' st h rc rs Q) : pz_W Ψ X M d pc lv (.int x :: st) h rc rs Q := by
  intro p l e R s m args below meth c Z H locs cells slots ls hΨ I hL
  exact lv_istore_n I.1.1 I.1.2.1 hdg hi hL hn rfl (fun ls' hL' => kk p l e R s m args below meth c Z H locs cells slots ls' hΨ I (hL'.sub (fun q hq => pz_ins_mem (by rw [← hl] at hq; exact hq))))
theorem pz_istore {i : Nat} {x : Int32} (hdg : decode M.2.1 pc = .ok (.istore i, 2))  (hn : i < M.2.2.1) (hl : pz_set1 i (.int x) lv = lv') (kk : pz_W Ψ X M d (pc + 2) lv' st h rc rs Q) : pz_W Ψ X M d pc lv (.int x :: st) h rc rs Q := by
  intro p l e R s m args below meth c Z H locs cells slots ls hΨ I hL
  exact lv_istore I.1.1 I.1.2.1 hdg hL hn rfl (fun ls' hL' => kk p l e R s m args below meth c Z H locs cells slots ls' hΨ I (hL'.sub (fun q hq => pz_ins_mem (by rw [← hl] at hq; exact hq))))
theorem pz_astore_n {k : Fin 4} {i : Nat} {x : Nat} (hdg : decode M.2.1 pc = .ok (.astore_n k, 1)) (hi : (k : Nat) = i) (hn : i < M.2.2.1) (hl : pz_set1 i (.ref x) lv = lv') (kk : pz_W Ψ X M d (pc + 1) lv' st h rc rs Q) : pz_W Ψ X M d pc lv (.ref x :: st) h rc rs Q := by
  intro p l e R s m args below meth c Z H locs cells slots ls hΨ I hL
  exact lv_astore_n I.1.1 I.1.2.1 hdg hi hL hn rfl (fun ls' hL' => kk p l e R s m args below meth c Z H locs cells slots ls' hΨ I (hL'.sub (fun q hq => pz_ins_mem (by rw [← hl] at hq; exact hq))))
theorem pz_astore {i : Nat} {x : Nat} (hdg : decode M.2.1 pc = .ok (.astore i, 2))  (hn : i < M.2.2.1) (hl : pz_set1 i (.ref x) lv = lv') (kk : pz_W Ψ X M d (pc + 2) lv' st h rc rs Q) : pz_W Ψ X M d pc lv (.ref x :: st) h rc rs Q := by
  intro p l e R s m args below meth c Z H locs cells slots ls hΨ I hL
  exact lv_astore I.1.1 I.1.2.1 hdg hL hn rfl (fun ls' hL' => kk p l e R s m args below meth c Z H locs cells slots ls' hΨ I (hL'.sub (fun q hq => pz_ins_mem (by rw [← hl] at hq; exact hq))))
theorem pz_lstore_n {k : Fin 4} {i : Nat} {x : Int64} (hdg : decode M.2.1 pc = .ok (.lstore_n k, 1)) (hi : (k : Nat) = i) (hn : i + 1 < M.2.2.1) (hl : pz_set2 i (.long x) lv = lv') (kk : pz_W Ψ X M d (pc + 1) lv' st h rc rs Q) : pz_W Ψ X M d pc lv (.long x :: st) h rc rs Q := by
  intro p l e R s m args below meth c Z H locs cells slots ls hΨ I hL
  exact lv_lstore_n I.1.1 I.1.2.1 hdg hi hL hn rfl (fun ls' hL' => kk p l e R s m args below meth c Z H locs cells slots ls' hΨ I (hL'.sub (fun q hq => pz_ins_mem (by rw [← hl] at hq; exact hq))))
theorem pz_lstore {i : Nat} {x : Int64} (hdg : decode M.2.1 pc = .ok (.lstore i, 2))  (hn : i + 1 < M.2.2.1) (hl : pz_set2 i (.long x) lv = lv') (kk : pz_W Ψ X M d (pc + 2) lv' st h rc rs Q) : pz_W Ψ X M d pc lv (.long x :: st) h rc rs Q := by
  intro p l e R s m args below meth c Z H locs cells slots ls hΨ I hL
  exact lv_lstore I.1.1 I.1.2.1 hdg hL hn rfl (fun ls' hL' => kk p l e R s m args below meth c Z H locs cells slots ls' hΨ I (hL'.sub (fun q hq => pz_ins_mem (by rw [← hl] at hq; exact hq))))
theorem pz_iinc {i : Nat} {n : Int} {x v : Int32} (hdg : decode M.2.1 pc = .ok (.iinc i n, 3)) (hk : pz_lk lv i = some (.int x)) (hv : x + Int32.ofInt n = v) (hn : i < M.2.2.1) (hl : pz_set1 i (.int v) lv = lv') (kk : pz_W Ψ X M d (pc + 3) lv' st h rc rs Q) : pz_W Ψ X M d pc lv st h rc rs Q := by
  intro p l e R s m args below meth c Z H locs cells slots ls hΨ I hL
  obtain ⟨k, hk2⟩ := List.getElem?_of_mem (pz_lk_mem hk)
  exact lv_iinc (k := k) I.1.1 I.1.2.1 hdg hL hk2 hv hn rfl (fun ls' hL' => kk p l e R s m args below meth c Z H locs cells slots ls' hΨ I (hL'.sub (fun q hq => pz_ins_mem (by rw [← hl] at hq; exact hq))))
theorem pz_iadd {x y : Int32} (hdg : decode M.2.1 pc = .ok (.iadd, 1))  (kk : pz_W Ψ X M d (pc + 1) lv (.int (x + y) :: st) h rc rs Q) : pz_W Ψ X M d pc lv (.int y :: .int x :: st) h rc rs Q := by
  intro p l e R s m args below meth c Z H locs cells slots ls hΨ I hL
  exact lv_iadd I.1.1 I.1.2.1 hdg (kk p l e R s m args below meth c Z H locs cells slots ls hΨ I hL)
theorem pz_isub {x y : Int32} (hdg : decode M.2.1 pc = .ok (.isub, 1))  (kk : pz_W Ψ X M d (pc + 1) lv (.int (x - y) :: st) h rc rs Q) : pz_W Ψ X M d pc lv (.int y :: .int x :: st) h rc rs Q := by
  intro p l e R s m args below meth c Z H locs cells slots ls hΨ I hL
  exact lv_isub I.1.1 I.1.2.1 hdg (kk p l e R s m args below meth c Z H locs cells slots ls hΨ I hL)
theorem pz_imul {x y : Int32} (hdg : decode M.2.1 pc = .ok (.imul, 1))  (kk : pz_W Ψ X M d (pc + 1) lv (.int (x * y) :: st) h rc rs Q) : pz_W Ψ X M d pc lv (.int y :: .int x :: st) h rc rs Q := by
  intro p l e R s m args below meth c Z H locs cells slots ls hΨ I hL
  exact lv_imul I.1.1 I.1.2.1 hdg (kk p l e R s m args below meth c Z H locs cells slots ls hΨ I hL)
theorem pz_iand {x y : Int32} (hdg : decode M.2.1 pc = .ok (.iand, 1))  (kk : pz_W Ψ X M d (pc + 1) lv (.int (x &&& y) :: st) h rc rs Q) : pz_W Ψ X M d pc lv (.int y :: .int x :: st) h rc rs Q := by
  intro p l e R s m args below meth c Z H locs cells slots ls hΨ I hL
  exact lv_iand I.1.1 I.1.2.1 hdg (kk p l e R s m args below meth c Z H locs cells slots ls hΨ I hL)
theorem pz_ior {x y : Int32} (hdg : decode M.2.1 pc = .ok (.ior, 1))  (kk : pz_W Ψ X M d (pc + 1) lv (.int (x ||| y) :: st) h rc rs Q) : pz_W Ψ X M d pc lv (.int y :: .int x :: st) h rc rs Q := by
  intro p l e R s m args below meth c Z H locs cells slots ls hΨ I hL
  exact lv_ior I.1.1 I.1.2.1 hdg (kk p l e R s m args below meth c Z H locs cells slots ls hΨ I hL)
theorem pz_ixor {x y : Int32} (hdg : decode M.2.1 pc = .ok (.ixor, 1))  (kk : pz_W Ψ X M d (pc + 1) lv (.int (x ^^^ y) :: st) h rc rs Q) : pz_W Ψ X M d pc lv (.int y :: .int x :: st) h rc rs Q := by
  intro p l e R s m args below meth c Z H locs cells slots ls hΨ I hL
  exact lv_ixor I.1.1 I.1.2.1 hdg (kk p l e R s m args below meth c Z H locs cells slots ls hΨ I hL)
theorem pz_ishl {x y : Int32} (hdg : decode M.2.1 pc = .ok (.ishl, 1))  (kk : pz_W Ψ X M d (pc + 1) lv (.int (x <<< (y &&& 31)) :: st) h rc rs Q) : pz_W Ψ X M d pc lv (.int y :: .int x :: st) h rc rs Q := by
  intro p l e R s m args below meth c Z H locs cells slots ls hΨ I hL
  exact lv_ishl I.1.1 I.1.2.1 hdg (kk p l e R s m args below meth c Z H locs cells slots ls hΨ I hL)
theorem pz_ishr {x y : Int32} (hdg : decode M.2.1 pc = .ok (.ishr, 1))  (kk : pz_W Ψ X M d (pc + 1) lv (.int (x >>> (y &&& 31)) :: st) h rc rs Q) : pz_W Ψ X M d pc lv (.int y :: .int x :: st) h rc rs Q := by
  intro p l e R s m args below meth c Z H locs cells slots ls hΨ I hL
  exact lv_ishr I.1.1 I.1.2.1 hdg (kk p l e R s m args below meth c Z H locs cells slots ls hΨ I hL)
theorem pz_iushr {x y v : Int32} (hdg : decode M.2.1 pc = .ok (.iushr, 1)) (hv : (x.toUInt32 >>> (y.toUInt32 &&& Int32.toUInt32 31)).toInt32 = v) (kk : pz_W Ψ X M d (pc + 1) lv (.int v :: st) h rc rs Q) : pz_W Ψ X M d pc lv (.int y :: .int x :: st) h rc rs Q := by
  intro p l e R s m args below meth c Z H locs cells slots ls hΨ I hL
  exact lv_iushr I.1.1 I.1.2.1 hdg hv (kk p l e R s m args below meth c Z H locs cells slots ls hΨ I hL)
theorem pz_idiv {x y : Int32} (hdg : decode M.2.1 pc = .ok (.idiv, 1)) (hne : ¬ y = 0) (kk : pz_W Ψ X M d (pc + 1) lv (.int (x / y) :: st) h rc rs Q) : pz_W Ψ X M d pc lv (.int y :: .int x :: st) h rc rs Q := by
  intro p l e R s m args below meth c Z H locs cells slots ls hΨ I hL
  exact lv_idiv I.1.1 I.1.2.1 hdg hne (kk p l e R s m args below meth c Z H locs cells slots ls hΨ I hL)
theorem pz_irem {x y : Int32} (hdg : decode M.2.1 pc = .ok (.irem, 1)) (hne : ¬ y = 0) (kk : pz_W Ψ X M d (pc + 1) lv (.int (x - x / y * y) :: st) h rc rs Q) : pz_W Ψ X M d pc lv (.int y :: .int x :: st) h rc rs Q := by
  intro p l e R s m args below meth c Z H locs cells slots ls hΨ I hL
  exact lv_irem I.1.1 I.1.2.1 hdg hne (kk p l e R s m args below meth c Z H locs cells slots ls hΨ I hL)
theorem pz_ineg {x : Int32} (hdg : decode M.2.1 pc = .ok (.ineg, 1))  (kk : pz_W Ψ X M d (pc + 1) lv (.int (-x) :: st) h rc rs Q) : pz_W Ψ X M d pc lv (.int x :: st) h rc rs Q := by
  intro p l e R s m args below meth c Z H locs cells slots ls hΨ I hL
  exact lv_ineg I.1.1 I.1.2.1 hdg (kk p l e R s m args below meth c Z H locs cells slots ls hΨ I hL)
theorem pz_ladd {x y : Int64} (hdg : decode M.2.1 pc = .ok (.ladd, 1))  (kk : pz_W Ψ X M d (pc + 1) lv (.long (x + y) :: st) h rc rs Q) : pz_W Ψ X M d pc lv (.long y :: .long x :: st) h rc rs Q := by
  intro p l e R s m args below meth c Z H locs cells slots ls hΨ I hL
  exact lv_ladd I.1.1 I.1.2.1 hdg (kk p l e R s m args below meth c Z H locs cells slots ls hΨ I hL)
theorem pz_lsub {x y : Int64} (hdg : decode M.2.1 pc = .ok (.lsub, 1))  (kk : pz_W Ψ X M d (pc + 1) lv (.long (x - y) :: st) h rc rs Q) : pz_W Ψ X M d pc lv (.long y :: .long x :: st) h rc rs Q := by
  intro p l e R s m args below meth c Z H locs cells slots ls hΨ I hL
  exact lv_lsub I.1.1 I.1.2.1 hdg (kk p l e R s m args below meth c Z H locs cells slots ls hΨ I hL)
theorem pz_lmul {x y : Int64} (hdg : decode M.2.1 pc = .ok (.lmul, 1))  (kk : pz_W Ψ X M d (pc + 1) lv (.long (x * y) :: st) h rc rs Q) : pz_W Ψ X M d pc lv (.long y :: .long x :: st) h rc rs Q := by
  intro p l e R s m args below meth c Z H locs cells slots ls hΨ I hL
  exact lv_lmul I.1.1 I.1.2.1 hdg (kk p l e R s m args below meth c Z H locs cells slots ls hΨ I hL)
theorem pz_land {x y : Int64} (hdg : decode M.2.1 pc = .ok (.land, 1))  (kk : pz_W Ψ X M d (pc + 1) lv (.long (x &&& y) :: st) h rc rs Q) : pz_W Ψ X M d pc lv (.long y :: .long x :: st) h rc rs Q := by
  intro p l e R s m args below meth c Z H locs cells slots ls hΨ I hL
  exact lv_land I.1.1 I.1.2.1 hdg (kk p l e R s m args below meth c Z H locs cells slots ls hΨ I hL)
theorem pz_lor {x y : Int64} (hdg : decode M.2.1 pc = .ok (.lor, 1))  (kk : pz_W Ψ X M d (pc + 1) lv (.long (x ||| y) :: st) h rc rs Q) : pz_W Ψ X M d pc lv (.long y :: .long x :: st) h rc rs Q := by
  intro p l e R s m args below meth c Z H locs cells slots ls hΨ I hL
  exact lv_lor I.1.1 I.1.2.1 hdg (kk p l e R s m args below meth c Z H locs cells slots ls hΨ I hL)
theorem pz_lxor {x y : Int64} (hdg : decode M.2.1 pc = .ok (.lxor, 1))  (kk : pz_W Ψ X M d (pc + 1) lv (.long (x ^^^ y) :: st) h rc rs Q) : pz_W Ψ X M d pc lv (.long y :: .long x :: st) h rc rs Q := by
  intro p l e R s m args below meth c Z H locs cells slots ls hΨ I hL
  exact lv_lxor I.1.1 I.1.2.1 hdg (kk p l e R s m args below meth c Z H locs cells slots ls hΨ I hL)
theorem pz_ldiv {x y : Int64} (hdg : decode M.2.1 pc = .ok (.ldiv, 1)) (hne : ¬ y = 0) (kk : pz_W Ψ X M d (pc + 1) lv (.long (x / y) :: st) h rc rs Q) : pz_W Ψ X M d pc lv (.long y :: .long x :: st) h rc rs Q := by
  intro p l e R s m args below meth c Z H locs cells slots ls hΨ I hL
  exact lv_ldiv I.1.1 I.1.2.1 hdg hne (kk p l e R s m args below meth c Z H locs cells slots ls hΨ I hL)
theorem pz_lrem {x y : Int64} (hdg : decode M.2.1 pc = .ok (.lrem, 1)) (hne : ¬ y = 0) (kk : pz_W Ψ X M d (pc + 1) lv (.long (x - x / y * y) :: st) h rc rs Q) : pz_W Ψ X M d pc lv (.long y :: .long x :: st) h rc rs Q := by
  intro p l e R s m args below meth c Z H locs cells slots ls hΨ I hL
  exact lv_lrem I.1.1 I.1.2.1 hdg hne (kk p l e R s m args below meth c Z H locs cells slots ls hΨ I hL)
theorem pz_lshl {x v : Int64} {y : Int32} (hdg : decode M.2.1 pc = .ok (.lshl, 1)) (hv : x <<< (y.toInt64 &&& 63) = v) (kk : pz_W Ψ X M d (pc + 1) lv (.long v :: st) h rc rs Q) : pz_W Ψ X M d pc lv (.int y :: .long x :: st) h rc rs Q := by
  intro p l e R s m args below meth c Z H locs cells slots ls hΨ I hL
  exact lv_lshl I.1.1 I.1.2.1 hdg hv (kk p l e R s m args below meth c Z H locs cells slots ls hΨ I hL)
theorem pz_lshr {x v : Int64} {y : Int32} (hdg : decode M.2.1 pc = .ok (.lshr, 1)) (hv : x >>> (y.toInt64 &&& 63) = v) (kk : pz_W Ψ X M d (pc + 1) lv (.long v :: st) h rc rs Q) : pz_W Ψ X M d pc lv (.int y :: .long x :: st) h rc rs Q := by
  intro p l e R s m args below meth c Z H locs cells slots ls hΨ I hL
  exact lv_lshr I.1.1 I.1.2.1 hdg hv (kk p l e R s m args below meth c Z H locs cells slots ls hΨ I hL)
theorem pz_lcmp {x y : Int64} (hdg : decode M.2.1 pc = .ok (.lcmp, 1))  (kk : pz_W Ψ X M d (pc + 1) lv (.int (lg_cmp x y) :: st) h rc rs Q) : pz_W Ψ X M d pc lv (.long y :: .long x :: st) h rc rs Q := by
  intro p l e R s m args below meth c Z H locs cells slots ls hΨ I hL
  exact W.lcmp I.1.1 I.1.2.1 hdg (kk p l e R s m args below meth c Z H locs cells slots ls hΨ I hL)
theorem pz_i2l {x : Int32} (hdg : decode M.2.1 pc = .ok (.i2l, 1))  (kk : pz_W Ψ X M d (pc + 1) lv (.long x.toInt64 :: st) h rc rs Q) : pz_W Ψ X M d pc lv (.int x :: st) h rc rs Q := by
  intro p l e R s m args below meth c Z H locs cells slots ls hΨ I hL
  exact lv_i2l I.1.1 I.1.2.1 hdg rfl (kk p l e R s m args below meth c Z H locs cells slots ls hΨ I hL)
theorem pz_l2i {x : Int64} (hdg : decode M.2.1 pc = .ok (.l2i, 1))  (kk : pz_W Ψ X M d (pc + 1) lv (.int x.toInt32 :: st) h rc rs Q) : pz_W Ψ X M d pc lv (.long x :: st) h rc rs Q := by
  intro p l e R s m args below meth c Z H locs cells slots ls hΨ I hL
  exact lv_l2i I.1.1 I.1.2.1 hdg rfl (kk p l e R s m args below meth c Z H locs cells slots ls hΨ I hL)
theorem pz_dup {va : Value} (hdg : decode M.2.1 pc = .ok (.dup, 1)) (hva : va.category = 1) (kk : pz_W Ψ X M d (pc + 1) lv (va :: va :: st) h rc rs Q) : pz_W Ψ X M d pc lv (va :: st) h rc rs Q := by
  intro p l e R s m args below meth c Z H locs cells slots ls hΨ I hL
  exact lv_dup I.1.1 I.1.2.1 hdg hva (kk p l e R s m args below meth c Z H locs cells slots ls hΨ I hL)
theorem pz_pop {va : Value} (hdg : decode M.2.1 pc = .ok (.pop, 1)) (hva : va.category = 1) (kk : pz_W Ψ X M d (pc + 1) lv (st) h rc rs Q) : pz_W Ψ X M d pc lv (va :: st) h rc rs Q := by
  intro p l e R s m args below meth c Z H locs cells slots ls hΨ I hL
  exact lv_pop I.1.1 I.1.2.1 hdg hva (kk p l e R s m args below meth c Z H locs cells slots ls hΨ I hL)
theorem pz_dup_x1 {va vb : Value} (hdg : decode M.2.1 pc = .ok (.dup_x1, 1)) (hva : va.category = 1) (hvb : vb.category = 1) (kk : pz_W Ψ X M d (pc + 1) lv (va :: vb :: va :: st) h rc rs Q) : pz_W Ψ X M d pc lv (va :: vb :: st) h rc rs Q := by
  intro p l e R s m args below meth c Z H locs cells slots ls hΨ I hL
  exact lv_dup_x1 I.1.1 I.1.2.1 hdg hva hvb (kk p l e R s m args below meth c Z H locs cells slots ls hΨ I hL)
theorem pz_dup_x2 {va vb vd : Value} (hdg : decode M.2.1 pc = .ok (.dup_x2, 1)) (hva : va.category = 1) (hvb : vb.category = 1) (hvd : vd.category = 1) (kk : pz_W Ψ X M d (pc + 1) lv (va :: vb :: vd :: va :: st) h rc rs Q) : pz_W Ψ X M d pc lv (va :: vb :: vd :: st) h rc rs Q := by
  intro p l e R s m args below meth c Z H locs cells slots ls hΨ I hL
  exact lv_dup_x2 I.1.1 I.1.2.1 hdg hva hvb hvd (kk p l e R s m args below meth c Z H locs cells slots ls hΨ I hL)
theorem pz_dup2 {va vb : Value} (hdg : decode M.2.1 pc = .ok (.dup2, 1)) (hva : va.category = 1) (hvb : vb.category = 1) (kk : pz_W Ψ X M d (pc + 1) lv (va :: vb :: va :: vb :: st) h rc rs Q) : pz_W Ψ X M d pc lv (va :: vb :: st) h rc rs Q := by
  intro p l e R s m args below meth c Z H locs cells slots ls hΨ I hL
  exact lv_dup2_11 I.1.1 I.1.2.1 hdg hva hvb (kk p l e R s m args below meth c Z H locs cells slots ls hΨ I hL)
theorem pz_if_eq {x : Int32} {off : Int} {tgt : Nat} (hdg : decode M.2.1 pc = .ok (.ifCond .eq off, 3)) (ht : (pc : Int) + off = (tgt : Int)) (kt : x = 0 → pz_W Ψ X M d tgt lv st h rc rs Q) (kf : ¬ x = 0 → pz_W Ψ X M d (pc + 3) lv st h rc rs Q) : pz_W Ψ X M d pc lv (.int x :: st) h rc rs Q := by
  intro p l e R s m args below meth c Z H locs cells slots ls hΨ I hL
  exact lv_if_eq I.1.1 I.1.2.1 hdg ht (fun z => kt z p l e R s m args below meth c Z H locs cells slots ls hΨ I hL) (fun z => kf z p l e R s m args below meth c Z H locs cells slots ls hΨ I hL)
theorem pz_icmp_eq {x y : Int32} {off : Int} {tgt : Nat} (hdg : decode M.2.1 pc = .ok (.if_icmp .eq off, 3)) (ht : (pc : Int) + off = (tgt : Int)) (kt : x = y → pz_W Ψ X M d tgt lv st h rc rs Q) (kf : ¬ x = y → pz_W Ψ X M d (pc + 3) lv st h rc rs Q) : pz_W Ψ X M d pc lv (.int y :: .int x :: st) h rc rs Q := by
  intro p l e R s m args below meth c Z H locs cells slots ls hΨ I hL
  exact lv_icmp_eq I.1.1 I.1.2.1 hdg ht (fun z => kt z p l e R s m args below meth c Z H locs cells slots ls hΨ I hL) (fun z => kf z p l e R s m args below meth c Z H locs cells slots ls hΨ I hL)
theorem pz_if_ne {x : Int32} {off : Int} {tgt : Nat} (hdg : decode M.2.1 pc = .ok (.ifCond .ne off, 3)) (ht : (pc : Int) + off = (tgt : Int)) (kt : ¬ x = 0 → pz_W Ψ X M d tgt lv st h rc rs Q) (kf : x = 0 → pz_W Ψ X M d (pc + 3) lv st h rc rs Q) : pz_W Ψ X M d pc lv (.int x :: st) h rc rs Q := by
  intro p l e R s m args below meth c Z H locs cells slots ls hΨ I hL
  exact lv_if_ne I.1.1 I.1.2.1 hdg ht (fun z => kt z p l e R s m args below meth c Z H locs cells slots ls hΨ I hL) (fun z => kf z p l e R s m args below meth c Z H locs cells slots ls hΨ I hL)
theorem pz_icmp_ne {x y : Int32} {off : Int} {tgt : Nat} (hdg : decode M.2.1 pc = .ok (.if_icmp .ne off, 3)) (ht : (pc : Int) + off = (tgt : Int)) (kt : ¬ x = y → pz_W Ψ X M d tgt lv st h rc rs Q) (kf : x = y → pz_W Ψ X M d (pc + 3) lv st h rc rs Q) : pz_W Ψ X M d pc lv (.int y :: .int x :: st) h rc rs Q := by
  intro p l e R s m args below meth c Z H locs cells slots ls hΨ I hL
  exact lv_icmp_ne I.1.1 I.1.2.1 hdg ht (fun z => kt z p l e R s m args below meth c Z H locs cells slots ls hΨ I hL) (fun z => kf z p l e R s m args below meth c Z H locs cells slots ls hΨ I hL)
theorem pz_if_lt {x : Int32} {off : Int} {tgt : Nat} (hdg : decode M.2.1 pc = .ok (.ifCond .lt off, 3)) (ht : (pc : Int) + off = (tgt : Int)) (kt : x < 0 → pz_W Ψ X M d tgt lv st h rc rs Q) (kf : ¬ x < 0 → pz_W Ψ X M d (pc + 3) lv st h rc rs Q) : pz_W Ψ X M d pc lv (.int x :: st) h rc rs Q := by
  intro p l e R s m args below meth c Z H locs cells slots ls hΨ I hL
  exact lv_if_lt I.1.1 I.1.2.1 hdg ht (fun z => kt z p l e R s m args below meth c Z H locs cells slots ls hΨ I hL) (fun z => kf z p l e R s m args below meth c Z H locs cells slots ls hΨ I hL)
theorem pz_icmp_lt {x y : Int32} {off : Int} {tgt : Nat} (hdg : decode M.2.1 pc = .ok (.if_icmp .lt off, 3)) (ht : (pc : Int) + off = (tgt : Int)) (kt : x < y → pz_W Ψ X M d tgt lv st h rc rs Q) (kf : ¬ x < y → pz_W Ψ X M d (pc + 3) lv st h rc rs Q) : pz_W Ψ X M d pc lv (.int y :: .int x :: st) h rc rs Q := by
  intro p l e R s m args below meth c Z H locs cells slots ls hΨ I hL
  exact lv_icmp_lt I.1.1 I.1.2.1 hdg ht (fun z => kt z p l e R s m args below meth c Z H locs cells slots ls hΨ I hL) (fun z => kf z p l e R s m args below meth c Z H locs cells slots ls hΨ I hL)
theorem pz_if_ge {x : Int32} {off : Int} {tgt : Nat} (hdg : decode M.2.1 pc = .ok (.ifCond .ge off, 3)) (ht : (pc : Int) + off = (tgt : Int)) (kt : 0 ≤ x → pz_W Ψ X M d tgt lv st h rc rs Q) (kf : ¬ 0 ≤ x → pz_W Ψ X M d (pc + 3) lv st h rc rs Q) : pz_W Ψ X M d pc lv (.int x :: st) h rc rs Q := by
  intro p l e R s m args below meth c Z H locs cells slots ls hΨ I hL
  exact lv_if_ge I.1.1 I.1.2.1 hdg ht (fun z => kt z p l e R s m args below meth c Z H locs cells slots ls hΨ I hL) (fun z => kf z p l e R s m args below meth c Z H locs cells slots ls hΨ I hL)
theorem pz_icmp_ge {x y : Int32} {off : Int} {tgt : Nat} (hdg : decode M.2.1 pc = .ok (.if_icmp .ge off, 3)) (ht : (pc : Int) + off = (tgt : Int)) (kt : y ≤ x → pz_W Ψ X M d tgt lv st h rc rs Q) (kf : ¬ y ≤ x → pz_W Ψ X M d (pc + 3) lv st h rc rs Q) : pz_W Ψ X M d pc lv (.int y :: .int x :: st) h rc rs Q := by
  intro p l e R s m args below meth c Z H locs cells slots ls hΨ I hL
  exact lv_icmp_ge I.1.1 I.1.2.1 hdg ht (fun z => kt z p l e R s m args below meth c Z H locs cells slots ls hΨ I hL) (fun z => kf z p l e R s m args below meth c Z H locs cells slots ls hΨ I hL)
theorem pz_if_gt {x : Int32} {off : Int} {tgt : Nat} (hdg : decode M.2.1 pc = .ok (.ifCond .gt off, 3)) (ht : (pc : Int) + off = (tgt : Int)) (kt : 0 < x → pz_W Ψ X M d tgt lv st h rc rs Q) (kf : ¬ 0 < x → pz_W Ψ X M d (pc + 3) lv st h rc rs Q) : pz_W Ψ X M d pc lv (.int x :: st) h rc rs Q := by
  intro p l e R s m args below meth c Z H locs cells slots ls hΨ I hL
  exact lv_if_gt I.1.1 I.1.2.1 hdg ht (fun z => kt z p l e R s m args below meth c Z H locs cells slots ls hΨ I hL) (fun z => kf z p l e R s m args below meth c Z H locs cells slots ls hΨ I hL)
theorem pz_icmp_gt {x y : Int32} {off : Int} {tgt : Nat} (hdg : decode M.2.1 pc = .ok (.if_icmp .gt off, 3)) (ht : (pc : Int) + off = (tgt : Int)) (kt : y < x → pz_W Ψ X M d tgt lv st h rc rs Q) (kf : ¬ y < x → pz_W Ψ X M d (pc + 3) lv st h rc rs Q) : pz_W Ψ X M d pc lv (.int y :: .int x :: st) h rc rs Q := by
  intro p l e R s m args below meth c Z H locs cells slots ls hΨ I hL
  exact lv_icmp_gt I.1.1 I.1.2.1 hdg ht (fun z => kt z p l e R s m args below meth c Z H locs cells slots ls hΨ I hL) (fun z => kf z p l e R s m args below meth c Z H locs cells slots ls hΨ I hL)
theorem pz_if_le {x : Int32} {off : Int} {tgt : Nat} (hdg : decode M.2.1 pc = .ok (.ifCond .le off, 3)) (ht : (pc : Int) + off = (tgt : Int)) (kt : x ≤ 0 → pz_W Ψ X M d tgt lv st h rc rs Q) (kf : ¬ x ≤ 0 → pz_W Ψ X M d (pc + 3) lv st h rc rs Q) : pz_W Ψ X M d pc lv (.int x :: st) h rc rs Q := by
  intro p l e R s m args below meth c Z H locs cells slots ls hΨ I hL
  exact lv_if_le I.1.1 I.1.2.1 hdg ht (fun z => kt z p l e R s m args below meth c Z H locs cells slots ls hΨ I hL) (fun z => kf z p l e R s m args below meth c Z H locs cells slots ls hΨ I hL)
theorem pz_icmp_le {x y : Int32} {off : Int} {tgt : Nat} (hdg : decode M.2.1 pc = .ok (.if_icmp .le off, 3)) (ht : (pc : Int) + off = (tgt : Int)) (kt : x ≤ y → pz_W Ψ X M d tgt lv st h rc rs Q) (kf : ¬ x ≤ y → pz_W Ψ X M d (pc + 3) lv st h rc rs Q) : pz_W Ψ X M d pc lv (.int y :: .int x :: st) h rc rs Q := by
  intro p l e R s m args below meth c Z H locs cells slots ls hΨ I hL
  exact lv_icmp_le I.1.1 I.1.2.1 hdg ht (fun z => kt z p l e R s m args below meth c Z H locs cells slots ls hΨ I hL) (fun z => kf z p l e R s m args below meth c Z H locs cells slots ls hΨ I hL)
theorem pz_goto {off : Int} {tgt : Nat} (hdg : decode M.2.1 pc = .ok (.goto off, 3)) (ht : (pc : Int) + off = (tgt : Int)) (kk : pz_W Ψ X M d tgt lv st h rc rs Q) : pz_W Ψ X M d pc lv st h rc rs Q := by
  intro p l e R s m args below meth c Z H locs cells slots ls hΨ I hL
  exact lv_goto I.1.1 I.1.2.1 hdg ht (kk p l e R s m args below meth c Z H locs cells slots ls hΨ I hL)
theorem pz_ifnull {x : Nat} {off : Int} (hdg : decode M.2.1 pc = .ok (.ifnull off, 3)) (kk : pz_W Ψ X M d (pc + 3) lv st h rc rs Q) : pz_W Ψ X M d pc lv (.ref x :: st) h rc rs Q := by
  intro p l e R s m args below meth c Z H locs cells slots ls hΨ I hL
  exact lv_ifnull I.1.1 I.1.2.1 hdg (kk p l e R s m args below meth c Z H locs cells slots ls hΨ I hL)
theorem pz_ifnullN {off : Int} {tgt : Nat} (hdg : decode M.2.1 pc = .ok (.ifnull off, 3)) (ht : (pc : Int) + off = (tgt : Int)) (kk : pz_W Ψ X M d tgt lv st h rc rs Q) : pz_W Ψ X M d pc lv (.null :: st) h rc rs Q := by
  intro p l e R s m args below meth c Z H locs cells slots ls hΨ I hL
  exact lv_ifnullN I.1.1 I.1.2.1 hdg ht (kk p l e R s m args below meth c Z H locs cells slots ls hΨ I hL)
theorem pz_ifnonnull {x : Nat} {off : Int} {tgt : Nat} (hdg : decode M.2.1 pc = .ok (.ifnonnull off, 3)) (ht : (pc : Int) + off = (tgt : Int)) (kk : pz_W Ψ X M d tgt lv st h rc rs Q) : pz_W Ψ X M d pc lv (.ref x :: st) h rc rs Q := by
  intro p l e R s m args below meth c Z H locs cells slots ls hΨ I hL
  exact lv_ifnonnull I.1.1 I.1.2.1 hdg ht (kk p l e R s m args below meth c Z H locs cells slots ls hΨ I hL)
theorem pz_ifnonnullN {off : Int} (hdg : decode M.2.1 pc = .ok (.ifnonnull off, 3)) (kk : pz_W Ψ X M d (pc + 3) lv st h rc rs Q) : pz_W Ψ X M d pc lv (.null :: st) h rc rs Q := by
  intro p l e R s m args below meth c Z H locs cells slots ls hΨ I hL
  exact lv_ifnonnullN I.1.1 I.1.2.1 hdg (kk p l e R s m args below meth c Z H locs cells slots ls hΨ I hL)
theorem pz_tableIn {dflt lo hi : Int} {offs : Array Int} {len : Nat} {x : Int32} {off : Int} {tgt : Nat} (hdg : decode M.2.1 pc = .ok (.tableswitch dflt lo hi offs, len)) (h1 : ¬ x.toInt < lo) (h2 : ¬ hi < x.toInt) (ho : offs[(x.toInt - lo).toNat]? = some off) (ht : (pc : Int) + off = (tgt : Int)) (kk : pz_W Ψ X M d tgt lv st h rc rs Q) : pz_W Ψ X M d pc lv (.int x :: st) h rc rs Q := by
  intro p l e R s m args below meth c Z H locs cells slots ls hΨ I hL
  exact lv_tableIn I.1.1 I.1.2.1 hdg h1 h2 ho ht (kk p l e R s m args below meth c Z H locs cells slots ls hΨ I hL)
theorem pz_tableOut {dflt lo hi : Int} {offs : Array Int} {len : Nat} {x : Int32} {tgt : Nat} (hdg : decode M.2.1 pc = .ok (.tableswitch dflt lo hi offs, len)) (hx : x.toInt < lo ∨ hi < x.toInt) (ht : (pc : Int) + dflt = (tgt : Int)) (kk : pz_W Ψ X M d tgt lv st h rc rs Q) : pz_W Ψ X M d pc lv (.int x :: st) h rc rs Q := by
  intro p l e R s m args below meth c Z H locs cells slots ls hΨ I hL
  exact lv_tableOut I.1.1 I.1.2.1 hdg hx ht (kk p l e R s m args below meth c Z H locs cells slots ls hΨ I hL)
theorem pz_ldc {index : Nat} {v : Int32} (hdg : decode M.2.1 pc = .ok (.ldc index, 2)) (hw : Jvm.Cond.constant M.1.cls index v ∈ pz_U) (kk : pz_W Ψ X M d (pc + 2) lv (.int v :: st) h rc rs Q) : pz_W Ψ X M d pc lv st h rc rs Q := by
  intro p l e R s m args below meth c Z H locs cells slots ls hΨ I hL
  exact lv_ldc I.1.1 I.1.2.1 I.1.2.2.2.1 (I.1.2.2.2.2.1 _ hw) hdg (kk p l e R s m args below meth c Z H locs cells slots ls hΨ I hL)
theorem pz_ret {r : Option Value} (hr : pz_rt M pc r) (hq : Q r h) : pz_W Ψ X M d pc lv (r.toList) h rc rs Q := by
  intro p l e R s m args below meth c Z H locs cells slots ls hΨ I hL
  obtain ⟨hC, hB, hZ, hR, hS, hc, hs⟩ := I
  exact W.widen (by omega) (by omega) (hZ r h H locs pc ls hq hR hS hr)
theorem pz_ireturn {v : Int32} {ty : FieldType} (hdg : decode M.2.1 pc = .ok (.ireturn, 1)) (ht : M.2.2.2 = some ty) (hn : narrow ty (.int v) = .int v) (hq : Q (some (.int v)) h) : pz_W Ψ X M d pc lv [.int v] h rc rs Q := pz_ret (r := some (.int v)) ⟨ty, ht, hn, hdg⟩ hq
theorem pz_lreturn {v : Int64} (hdg : decode M.2.1 pc = .ok (.lreturn, 1)) (ht : M.2.2.2 = some .long) (hq : Q (some (.long v)) h) : pz_W Ψ X M d pc lv [.long v] h rc rs Q := pz_ret (r := some (.long v)) ⟨ht, hdg⟩ hq
theorem pz_return (hdg : decode M.2.1 pc = .ok (.return_, 1)) (ht : M.2.2.2 = none) (hq : Q none h) : pz_W Ψ X M d pc lv [] h rc rs Q := pz_ret (r := none) ⟨ht, hdg⟩ hq
theorem pz_areturn {a : Nat} {C : String} (hdg : decode M.2.1 pc = .ok (.areturn, 1)) (ht : M.2.2.2 = some (.object C)) (hq : Q (some (.ref a)) h) : pz_W Ψ X M d pc lv [.ref a] h rc rs Q := pz_ret (r := some (.ref a)) ⟨⟨_, ht, Or.inl ⟨C, rfl⟩⟩, hdg⟩ hq
theorem pz_areturnN {C : String} (hdg : decode M.2.1 pc = .ok (.areturn, 1)) (ht : M.2.2.2 = some (.object C)) (hq : Q (some .null) h) : pz_W Ψ X M d pc lv [.null] h rc rs Q := pz_ret (r := some .null) ⟨⟨_, ht, Or.inl ⟨C, rfl⟩⟩, hdg⟩ hq
end PZR
