/-! new int[2][K]: the outer array, and behind it its two rows -/
def pm_in (cI : ClassId) (K : Nat) : Cell := { cls := cI, slots := Array.replicate K (.int 0), vm := .none }
def pm_o0 (cA : ClassId) : Cell := { cls := cA, slots := Array.replicate 2 .null, vm := .none }
def pm_s1 (T : State) (cA : ClassId) : State := T.pushCell (pm_o0 cA)
def pm_s2 (T : State) (cA cI : ClassId) (K : Nat) : State := ((pm_s1 T cA).pushCell (pm_in cI K)).setCell T.heap.size ((pm_o0 cA).setSlot 0 (.ref (T.heap.size + 1)))
def pm_s3 (T : State) (cA cI : ClassId) (K : Nat) : State := ((pm_s2 T cA cI K).pushCell (pm_in cI K)).setCell T.heap.size (((pm_o0 cA).setSlot 0 (.ref (T.heap.size + 1))).setSlot 1 (.ref (T.heap.size + 2)))
theorem pm_z1 (T : State) (cA : ClassId) : (pm_s1 T cA).heap.size = T.heap.size + 1 ∧ (pm_s1 T cA).slotsUsed = T.slotsUsed + 2 ∧ (pm_s1 T cA).vm = T.vm ∧ (pm_s1 T cA).heap[T.heap.size]? = some (pm_o0 cA) := ⟨by simp [pm_s1], by simp [pm_s1, pm_o0], rfl, by simp [pm_s1]⟩
theorem pm_b1 (T : State) (cA cI : ClassId) (K : Nat) : ((pm_s1 T cA).pushCell (pm_in cI K)).heap[T.heap.size]? = some (pm_o0 cA) := by
  have hlt : T.heap.size < (pm_s1 T cA).heap.size := by rw [(pm_z1 T cA).1]; omega
  rw [State.heap_pushCell_of_lt (h := hlt)]
  exact (pm_z1 T cA).2.2.2
theorem pm_z2 (T : State) (cA cI : ClassId) (K : Nat) : (pm_s2 T cA cI K).heap.size = T.heap.size + 2 ∧ (pm_s2 T cA cI K).slotsUsed = T.slotsUsed + 2 + K ∧ (pm_s2 T cA cI K).vm = T.vm ∧ (pm_s2 T cA cI K).heap[T.heap.size]? = some ((pm_o0 cA).setSlot 0 (.ref (T.heap.size + 1))) := by
  refine ⟨by simp [pm_s2, State.setCell, (pm_z1 T cA).1], ?_, by simp [pm_s2, (pm_z1 T cA).2.2.1], State.heap_setCell_self (pm_b1 T cA cI K)⟩
  have := (pm_z1 T cA).2.1
  simp [pm_s2, this, pm_in]
theorem pm_b2 (T : State) (cA cI : ClassId) (K : Nat) : ((pm_s2 T cA cI K).pushCell (pm_in cI K)).heap[T.heap.size]? = some ((pm_o0 cA).setSlot 0 (.ref (T.heap.size + 1))) := by
  have hlt : T.heap.size < (pm_s2 T cA cI K).heap.size := by rw [(pm_z2 T cA cI K).1]; omega
  rw [State.heap_pushCell_of_lt (h := hlt)]
  exact (pm_z2 T cA cI K).2.2.2
section PM
variable {E : CtlPost} {e : Env} {d : Bool} {acts : List Action} {s : State}
theorem pm_alloc {c comp : ClassId} {k : Class} {type : FieldType} {len : Nat} {v0 : Value} (hk : s.vm.classes[c]? = some k) (hkind : k.kind = .array comp type) (hl : ¬ len > e.platform.arrayLengthLimit) (hb : ¬ len * componentBytes type > e.platform.maxHeapBytes) (hfit : fits type v0 = true) (hdef : v0.isDefault = true) {Q : Addr → Pre} (h1 : s.heap.size < e.platform.maxCells) (h2 : s.slotsUsed + len ≤ e.platform.maxSlots)
    (hq : Q s.heap.size d acts (s.pushCell { cls := c, slots := Array.replicate len v0, vm := .none })) : wp (Jvm.newArray c len v0) Q E e d acts s := by
  have hfits : ∀ i v, (Array.replicate len v0)[i]? = some v → s.fitsSlot c .none i v = true := fun i v hv => by
    rw [Array.getElem?_replicate] at hv
    split at hv
    · cases hv
      simp [State.fitsSlot, State.slotType?, hk, hkind, hfit]
    · cases hv
  have hall : ((Array.replicate len v0).all (·.isDefault)) = true := by
    rw [Array.all_replicate]
    split <;> simp [hdef]
  have hact : allocActs (Array.replicate len v0) s.heap.size acts = acts := by
    unfold allocActs
    rw [if_pos hall]
  simp only [Jvm.newArray, Jvm.arrayFits, wp_bind', Jvm.W.ask, Jvm.W.ite, hl, if_false, wp_pure', Jvm.W.theClass, hk, hkind, hb, Jvm.W.alloc, Jvm.W.stop, Option.some.injEq, exists_eq_left', Array.size_replicate, hact]
  rw [if_neg (by omega)]
  exact ⟨h1, h2, hfits, hq⟩
theorem pm_row {cI cc : ClassId} {kI : Class} {k : Int32} (hkI : s.vm.classes[cI]? = some kI) (hkindI : kI.kind = .array cc .int) (hk : ¬ k < 0) (hl : ¬ k.toNatClampNeg > e.platform.arrayLengthLimit) (hb : ¬ k.toNatClampNeg * componentBytes .int > e.platform.maxHeapBytes) (h1 : s.heap.size < e.platform.maxCells) (h2 : s.slotsUsed + k.toNatClampNeg ≤ e.platform.maxSlots)
    {Q : Addr → Pre} (hq : Q s.heap.size d acts (s.pushCell (pm_in cI k.toNatClampNeg))) : wp (multianewarray.make cI [k]) Q E e d acts s := by
  rw [multianewarray.make]
  simp only [wp_bind', Jvm.W.ite, hk, if_false, wp_pure', Jvm.W.theClass, hkI, hkindI, Option.some.injEq, exists_eq_left']
  exact pm_alloc hkI hkindI hl hb rfl rfl h1 h2 hq
theorem pm_make {cA cI cc : ClassId} {kA kI : Class} {k : Int32} (hkA : s.vm.classes[cA]? = some kA) (hkindA : kA.kind = .array cI (.array .int)) (hkI : s.vm.classes[cI]? = some kI) (hkindI : kI.kind = .array cc .int) (hk : ¬ k < 0) (hl0 : ¬ 2 > e.platform.arrayLengthLimit) (hb0 : ¬ 2 * componentBytes (.array .int) > e.platform.maxHeapBytes) (hl : ¬ k.toNatClampNeg > e.platform.arrayLengthLimit) (hb : ¬ k.toNatClampNeg * componentBytes .int > e.platform.maxHeapBytes) (h1 : s.heap.size + 3 ≤ e.platform.maxCells) (h2 : s.slotsUsed + 2 + 2 * k.toNatClampNeg ≤ e.platform.maxSlots)
    {Q : Addr → Pre} (hq : ∀ d' acts', Q s.heap.size d' acts' (pm_s3 s cA cI k.toNatClampNeg)) : wp (multianewarray.make cA [2, k]) Q E e d acts s := by
  have hfind : ([k].find? (· < 0)) = none := by simp [hk]
  have h20 : ¬ (2 : Int32) < 0 := by decide
  have h22 : (2 : Int32).toNatClampNeg = 2 := by decide
  obtain ⟨a1, a2, a3, a4⟩ := pm_z1 s cA
  obtain ⟨c1, c2, c3, c4⟩ := pm_z2 s cA cI k.toNatClampNeg
  rw [multianewarray.make]
  simp only [wp_bind', Jvm.W.ite, h20, if_false, wp_pure', Jvm.W.theClass, hkA, hkindA, Option.some.injEq, exists_eq_left', h22]
  refine pm_alloc hkA hkindA hl0 hb0 rfl rfl (by omega) (by omega) ?_
  simp only [hfind]
  rw [ite_self, wp_bind', Std.Legacy.Range.forIn_eq_forIn_range']
  show wp (forIn [0, 1] PUnit.unit _) _ E e d acts (pm_s1 s cA)
  simp only [List.forIn_cons, List.forIn_nil, wp_bind', wp_pure']
  refine pm_row (by rw [a3]; exact hkI) hkindI hk hl hb (by omega) (by omega) ?_
  simp only [wp_bind', Jvm.W.writeLoc, wp_pure']
  refine ⟨pm_o0 cA, pm_b1 s cA cI _, (fun z => by cases z), by simp [pm_o0], ?_, ?_⟩
  · simp [State.fitsSlot, State.slotType?, a3, hkA, hkindA, pm_o0, fits]
  rw [a1]
  show wp _ _ E e _ _ (pm_s2 s cA cI k.toNatClampNeg)
  refine pm_row (by rw [c3]; exact hkI) hkindI hk hl hb (by omega) (by omega) ?_
  simp only [wp_bind', Jvm.W.writeLoc, wp_pure']
  refine ⟨_, pm_b2 s cA cI _, (fun z => by cases z), by simp [pm_o0, Cell.setSlot], ?_, ?_⟩
  · simp [State.fitsSlot, State.slotType?, c3, hkA, hkindA, pm_o0, fits, Cell.setSlot]
  rw [c1]
  exact hq _ _
end PM
theorem pm_top (T : State) (f : JFrame) (cA cI : ClassId) (K : Nat) : pm_s3 (T.setTop f) cA cI K = (pm_s3 T cA cI K).setTop f := by
  simp only [pm_s3, pm_s2, pm_s1, State.heap_setTop, State.pushCell_setTop, State.setCell_setTop]
theorem pm_stand {p : Program} {l : Launch} {e : Env} {R : Room} {s : State} {m : MethodId} {args : Array Value} {below : List Frame} {meth : Method} {c : Code} {T : State} {locs : List Loc} {cells slots : Nat} (X : Stand p l e R s m args below meth c T locs cells slots) (cA cI : ClassId) (K : Nat) : Stand p l e R s m args below meth c (pm_s3 T cA cI K) locs (cells + 3) (slots + (2 + 2 * K)) := by
  have g0 : s.heap.size ≤ T.heap.size := X.heapGrown
  have x1 : Stand p l e R s m args below meth c (pm_s1 T cA) locs (cells + 1) (slots + 2) := by
    have h := X.pushed (pm_o0 cA)
    have e1 : (pm_o0 cA).slots.size = 2 := by simp [pm_o0]
    rw [e1] at h
    exact h
  have e2 : (pm_in cI K).slots.size = K := by simp [pm_in]
  have x2 : Stand p l e R s m args below meth c (pm_s2 T cA cI K) locs (cells + 1 + 1) (slots + 2 + K) := by
    have h := (x1.pushed (pm_in cI K)).stored (pm_b1 T cA cI K) 0 (.ref (T.heap.size + 1))
    rw [e2] at h
    exact h.dropFresh (fun y hy => by rw [List.mem_singleton.mp hy]; exact g0)
  have h := (x2.pushed (pm_in cI K)).stored (pm_b2 T cA cI K) 1 (.ref (T.heap.size + 2))
  rw [e2] at h
  have h3 := h.dropFresh (fun y hy => by rw [List.mem_singleton.mp hy]; exact g0)
  have e3 : cells + 1 + 1 + 1 = cells + 3 := by omega
  have e4 : slots + 2 + K + K = slots + (2 + 2 * K) := by omega
  rw [e3, e4] at h3
  exact h3
def pz_nwM (h : pz_H) (K : Nat) : pz_H := (fun q => if q = h.2 then some (.inl (3, 2, .inr (.inr (.inr (.inr (fun i => if i = 0 then some (h.2 + 1) else if i = 1 then some (h.2 + 2) else none)))))) else if q = h.2 + 1 ∨ q = h.2 + 2 then some (.inl (0, K, .inl (fun _ => 0))) else h.1 q, h.2 + 3)
def pq_mul (h : pz_H) (N K : Nat) (C : Nat → pz_H → Prop) : Prop := (∀ (q : Nat) (c : pz_E), h.1 q = some c → q < h.2) → C h.2 (pz_nwM h K)
theorem pm_heap (T : State) (cA cI : ClassId) (K : Nat) : (pm_s3 T cA cI K).heap.size = T.heap.size + 3 ∧ (∀ q : Nat, q < T.heap.size → (pm_s3 T cA cI K).heap[q]? = T.heap[q]?) ∧ (pm_s3 T cA cI K).heap[T.heap.size]? = some (((pm_o0 cA).setSlot 0 (.ref (T.heap.size + 1))).setSlot 1 (.ref (T.heap.size + 2))) ∧ (pm_s3 T cA cI K).heap[T.heap.size + 1]? = some (pm_in cI K) ∧ (pm_s3 T cA cI K).heap[T.heap.size + 2]? = some (pm_in cI K) := by
  obtain ⟨a1, a2, a3, a4⟩ := pm_z1 T cA
  obtain ⟨c1, c2, c3, c4⟩ := pm_z2 T cA cI K
  have o1 : ∀ q : Nat, q ≠ T.heap.size → q < T.heap.size + 1 → (pm_s2 T cA cI K).heap[q]? = (pm_s1 T cA).heap[q]? := fun q h1 h2 => by
    show (((pm_s1 T cA).pushCell (pm_in cI K)).setCell T.heap.size _).heap[q]? = _
    have hlt : q < (pm_s1 T cA).heap.size := by rw [a1]; exact h2
    rw [State.heap_setCell_other (Ne.symm h1), State.heap_pushCell_of_lt (h := hlt)]
  have o2 : ∀ q : Nat, q ≠ T.heap.size → q < T.heap.size + 2 → (pm_s3 T cA cI K).heap[q]? = (pm_s2 T cA cI K).heap[q]? := fun q h1 h2 => by
    show (((pm_s2 T cA cI K).pushCell (pm_in cI K)).setCell T.heap.size _).heap[q]? = _
    have hlt : q < (pm_s2 T cA cI K).heap.size := by rw [c1]; exact h2
    rw [State.heap_setCell_other (Ne.symm h1), State.heap_pushCell_of_lt (h := hlt)]
  refine ⟨by simp [pm_s3, State.setCell, c1], fun q hq => ?_, State.heap_setCell_self (pm_b2 T cA cI K), ?_, ?_⟩
  · rw [o2 q (by omega) (by omega), o1 q (by omega) (by omega)]
    exact State.heap_pushCell_of_lt _ _ hq
  · rw [o2 _ (by omega) (by omega)]
    show (((pm_s1 T cA).pushCell (pm_in cI K)).setCell T.heap.size _).heap[T.heap.size + 1]? = _
    rw [State.heap_setCell_other (show T.heap.size ≠ T.heap.size + 1 by omega), ← a1]
    exact State.heap_pushCell_size _ _
  · show (((pm_s2 T cA cI K).pushCell (pm_in cI K)).setCell T.heap.size _).heap[T.heap.size + 2]? = _
    rw [State.heap_setCell_other (show T.heap.size ≠ T.heap.size + 2 by omega), ← c1]
    exact State.heap_pushCell_size _ _
theorem pm_outer (cA : ClassId) (a : Nat) : ((pm_o0 cA).setSlot 0 (.ref (a + 1))).setSlot 1 (.ref (a + 2)) = vp_cell cA (2, .inr (.inr (.inr (.inr (fun i => if i = 0 then some (a + 1) else if i = 1 then some (a + 2) else none))))) := by
  rw [vp_cell_q]
  have e0 : pm_o0 cA = arrV cA 2 (fun _ => .null) := by unfold pm_o0; rw [arrV_new]
  rw [e0, arrV_store, arrV_store]
  refine congrArg (arrV cA 2) (funext fun j => ?_)
  by_cases h0 : j = 0
  · subst h0; simp [updV, va_rf]
  · by_cases h1 : j = 1
    · subst h1; simp [updV, va_rf]
    · simp [updV, va_rf, h0, h1]
theorem pm_inner (cI : ClassId) (K : Nat) : pm_in cI K = vp_cell cI (K, .inl (fun _ => 0)) := by
  rw [vp_cell_i]
  unfold pm_in
  rw [arrV_new]
set_option maxHeartbeats 4000000 in
theorem pz_multi {Ψ : State → Prop} {X : pz_X} {M : pz_M} {d pc rc rs idx K : Nat} {lv : List (Nat × Value)} {st : List Value} {h : pz_H} {Q : Option Value → pz_H → Prop} {k : Int32} (hdg : decode M.2.1 pc = .ok (.multianewarray idx 2, 4)) (hcl : Cond.classLink M.1.cls idx "[[I" ∈ pz_U) (hk : ¬ k < 0) (hK : k.toNatClampNeg = K) (hby : K ≤ 1000)
    (kk : (∀ (q : Nat) (c : pz_E), h.1 q = some c → q < h.2) → pz_W Ψ X M d (pc + 4) lv (.ref h.2 :: st) (pz_nwM h K) rc rs Q) : pz_W Ψ X M d pc lv (.int k :: .int 2 :: st) h (rc + 3) (rs + (2 + 2 * K)) Q := by
  intro p l e R s m args below meth c Z H locs cells slots ls hΨ I hL
  have hK0 := I.1.2.2.2.2.2.1.1
  obtain ⟨kA, hkA, hkindA⟩ := I.1.2.2.2.2.2.1.2.2.2.2
  have hts := I.1.2.2.2.2.1
  have hR := I.2.2.2.1
  have hS := I.2.2.2.2.1
  have hcc := I.2.2.2.2.2.1
  have hss := I.2.2.2.2.2.2
  have hfA : s.vm.findClass "[[I" = some (X.2.1 3) := (hK0.2 3 _ (pz_kt_at X (t := 3) rfl)).2
  obtain ⟨-, kI, hkI, cc, hkindI⟩ := (hK0.2 0 _ (pz_kt_at X (t := 0) rfl)).1 0 (fun _ => .int 0)
  have hkI : s.vm.classes[X.2.1 0]? = some kI := hkI
  subst hK
  intro T hT Xs
  have hpl : e.platform.magicAccessors = ({} : Platform).magicAccessors := by rw [Xs.admits.platform]
  obtain ⟨c0, hfc0, hclk⟩ := Cond.classLink_spec I.1.2.2.2.1 (hts _ hcl) e.platform hpl
  have ec : c0 = X.2.1 3 := Option.some.inj (hfc0.symm.trans hfA)
  subst ec
  obtain ⟨hg₁, hwarm₁, -⟩ := State.classEntry (e := e) Xs.warmed hclk
  generalize T.vm.noted m.cls idx (.cls (X.2.1 3)) = vm₁ at hg₁ hwarm₁
  obtain ⟨kA₁, hkA₁, heA⟩ := hwarm₁.alike.2.2 _ _ hkA
  obtain ⟨kI₁, hkI₁, heI⟩ := hwarm₁.alike.2.2 _ _ hkI
  have X₁ := Xs.noted hwarm₁
  have X3 := pm_stand X₁ (X.2.1 3) (X.2.1 0) k.toNatClampNeg
  obtain ⟨r1, r2⟩ := Xs.roomAbove (a := 3) (b := 2 + 2 * k.toNatClampNeg) (by omega) (by omega)
  obtain ⟨f1, f2, f3, f4, f5⟩ := pm_heap (T.setVm vm₁) (X.2.1 3) (X.2.1 0) k.toNatClampNeg
  have hTh : (T.setVm vm₁).heap = H := hT
  rw [hTh, hR.1] at f1 f3 f4 f5
  rw [hTh] at f2
  rw [hR.1] at f2
  rw [pm_outer] at f3
  rw [pm_inner] at f4 f5
  generalize hF : (pm_s3 (T.setVm vm₁) (X.2.1 3) (X.2.1 0) k.toNatClampNeg).heap = H1 at f1 f2 f3 f4 f5
  have hRn : pz_R X (pz_nwM h k.toNatClampNeg) H1 := by
    refine ⟨f1, Nat.le_trans hR.2.1 (Nat.le_add_right _ _), fun q c1 hq => ?_⟩
    unfold pz_nwM at hq
    dsimp only at hq
    by_cases h0 : q = h.2
    · rw [if_pos h0] at hq
      cases hq
      subst h0
      exact ⟨hR.2.1, f3⟩
    · rw [if_neg h0] at hq
      by_cases h1 : q = h.2 + 1 ∨ q = h.2 + 2
      · rw [if_pos h1] at hq
        cases hq
        rcases h1 with h1 | h1
        · subst h1
          exact ⟨Nat.le_trans hR.2.1 (Nat.le_add_right _ _), f4⟩
        · subst h1
          exact ⟨Nat.le_trans hR.2.1 (Nat.le_add_right _ _), f5⟩
      · rw [if_neg h1] at hq
        obtain ⟨g1, g2⟩ := hR.2.2 q c1 hq
        exact ⟨g1, g2.kept (f2 q (hR.lt hq))⟩
  have hSn : va_S (pz_A X) s.heap H1 locs := ⟨Nat.le_trans hS.1 (by rw [f1, hR.1]; omega), fun x g1 g2 => (f2 x (by rw [← hR.1]; exact Nat.lt_of_lt_of_le g1 hS.1)).trans (hS.2.1 x g1 g2), hS.2.2⟩
  obtain ⟨t, a1, b1⟩ := kk (fun q c hq => hR.lt hq) p l e R s m args below meth c Z H1 locs (cells + 3) (slots + (2 + 2 * k.toNatClampNeg)) ls hΨ (I.to hRn hSn (by omega) (by omega)) hL (pm_s3 (T.setVm vm₁) (X.2.1 3) (X.2.1 0) k.toNatClampNeg) hF X3
  refine ⟨t, ?_, b1⟩
  have hdg' : decode c.code pc = .ok (.multianewarray idx 2, 4) := by rw [I.1.2.1]; exact hdg
  have hl0 : ¬ 2 > e.platform.arrayLengthLimit := by rw [Launch.admits_arrayLengthLimit Xs.admits]; omega
  have hb0 : ¬ 2 * componentBytes (.array .int) > e.platform.maxHeapBytes := by
    rw [Launch.admits_maxHeapBytes Xs.admits]; show ¬ 2 * 4 > 536870912; omega
  have hl : ¬ k.toNatClampNeg > e.platform.arrayLengthLimit := by rw [Launch.admits_arrayLengthLimit Xs.admits]; omega
  have hb : ¬ k.toNatClampNeg * componentBytes .int > e.platform.maxHeapBytes := by
    rw [Launch.admits_maxHeapBytes Xs.admits]; show ¬ k.toNatClampNeg * 4 > 536870912; omega
  have hexec := I.1.1
  generalize hgd : F0 m pc ls (.int k :: .int 2 :: st) = g
  have hg : g.method = m := by rw [← hgd]
  have hgpc : g.pc = pc := by rw [← hgd]
  have hgst : g.stack = .int k :: .int 2 :: st := by rw [← hgd]
  have hgF : F0 m (pc + 4) ls (.ref h.2 :: st) = { g with pc := g.pc + 4, stack := .ref h.2 :: st } := by rw [← hgd]
  rw [hgF] at a1
  subst hg
  jvm_step Xs.here [hexec, hgpc, hdg']
  simp only [multianewarray.sem, wp_bind', Jvm.W.resolveClassAt_links (State.method?_setTop g Xs.here.top) hg₁]
  rw [Jvm.W.popN, if_neg (by decide)]
  refine ⟨g, State.topJava?_setTop' (s := T.setVm vm₁) g Xs.here.top, [.int 2, .int k], st, rfl, hgst, ?_⟩
  simp only [List.mapM_cons, List.mapM_nil, wp_bind', wp_pure']
  refine pm_make (kA := kA₁) (kI := kI₁) (cI := X.2.1 0) (cc := cc) hkA₁ (by rw [heA]; exact hkindA) hkI₁ (by rw [heI]; exact hkindI) hk hl0 hb0 hl hb (by show T.heap.size + 3 ≤ _; omega) (by show T.slotsUsed + 2 + _ ≤ _; omega) (fun d' acts' => ?_)
  have eS : ((T.setTop g).setVm vm₁).setTop { g with stack := st } = (T.setVm vm₁).setTop { g with stack := st } := by
    show ((T.setVm vm₁).setTop g).setTop _ = _
    rw [State.setTop_setTop]
  rw [eS, pm_top]
  simp only [wp_bind', Jvm.W.mark, Jvm.W.pushRef, State.topJava?_setTop' _ X3.here.top, Option.some.injEq, exists_eq_left', State.setTop_setTop, State.heap_setTop]
  intro acts
  simp [jvm, X3.here.top]
  have e9 : T.heap.size = h.2 := by rw [hT]; exact hR.1
  rw [← e9] at a1
  exact a1
