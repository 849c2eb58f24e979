/-! new objects' first fields, new arrays, System.arraycopy, the JDK's own methods -/
theorem pq_defX0 : ∀ j, j < 3 → defaultValue (tyX0 j) = vp_V [.int 0, .null, .null] j := by decide +kernel
theorem pq_defX1 : ∀ j, j < 18 → defaultValue (tyX1 j) = vp_V [.int 0, .int 0, .int 0, .int 0, .int 0, .null, .null, .null, .null, .null, .null, .null, .null, .null, .null, .null, .null, .int 0] j := by decide +kernel
theorem pq_defX2 : ∀ j, j < 10 → defaultValue (tyX2 j) = vp_V [.null, .null, .null, .int 0, .int 0, .null, .int 0, .null, .null, .int 0] j := by decide +kernel
theorem pq_defX3 : ∀ j, j < 3 → defaultValue (tyX3 j) = vp_V [.null, .null, .null] j := by decide +kernel
theorem pq_defX4 : ∀ j, j < 15 → defaultValue (tyX4 j) = vp_V [.null, .int 0, .null, .null, .null, .null, .null, .null, .null, .null, .int 0, .null, .null, .null, .int 0] j := by decide +kernel
theorem pq_defX5 : ∀ j, j < 29 → defaultValue (tyX5 j) = vp_V [.int 0, .null, .null, .null, .null, .null, .null, .null, .null, .null, .null, .null, .int 0, .int 0, .null, .int 0, .null, .null, .int 0, .null, .null, .null, .null, .null, .int 0, .null, .null, .null, .int 0] j := by decide +kernel
theorem pq_z0 (cA : ClassId) (n : Nat) : vp_cell cA (n, .inl (fun _ => 0)) = arrV cA n (fun _ => defaultValue (newarray.typeOf .int)) := by rw [vp_cell_i]; rfl
theorem pq_z4 (cA : ClassId) (n : Nat) : vp_cell cA (n, .inl (fun _ => 0)) = arrV cA n (fun _ => defaultValue (newarray.typeOf .boolean)) := by rw [vp_cell_i]; rfl
theorem pq_z1 (cA : ClassId) (n : Nat) : vp_cell cA (n, .inr (.inl (fun _ => 0))) = arrV cA n (fun _ => defaultValue (newarray.typeOf .long)) := by rw [vp_cell_l]; rfl
theorem mm_min : Cond.code Lib.Math.min.name Lib.Math.min.code 2 (some .int) ∈ pz_U := pz_in 247 (by decide +kernel) rfl
theorem mm_max : Cond.code Lib.Math.max.name Lib.Math.max.code 2 (some .int) ∈ pz_U := pz_in 250 (by decide +kernel) rfl
theorem ml_copy_X4_138 : Cond.methodLink RX4 138 arraycopyName ∈ pz_U := pz_in 458 (by decide +kernel) rfl
theorem mn_copy : Cond.native arraycopyName ∈ pz_U := pz_in 460 (by decide +kernel) rfl
theorem ms_copy : Cond.static arraycopyName ∈ pz_U := pz_in 459 (by decide +kernel) rfl
def pq_copy (h : pz_H) (a0 : Nat) (sp : Int32) (a : Nat) (dp n : Int32) (K : pz_H → Prop) : Prop := ∃ (n0 n1 : Nat) (f g : Nat → Int32), h.1 a0 = some (.inl (0, n0, .inl f)) ∧ h.1 a = some (.inl (0, n1, .inl g)) ∧ ¬ sp < 0 ∧ ¬ dp < 0 ∧ ¬ n < 0 ∧ sp.toNatClampNeg + n.toNatClampNeg ≤ n0 ∧ dp.toNatClampNeg + n.toNatClampNeg ≤ n1 ∧ K (pz_up h a (.inl (0, n1, .inl (va_cpy f g sp.toNatClampNeg dp.toNatClampNeg n.toNatClampNeg))))
theorem pz_copy {Ψ : State → Prop} {X : pz_X} {M : pz_M} {d pc rc rs idx a a0 n0 n1 : Nat} {lv : List (Nat × Value)} {st : List Value} {h : pz_H} {Q : Option Value → pz_H → Prop} {f g : Nat → Int32} {sp dp n : Int32} (hdg : decode M.2.1 pc = .ok (.invokestatic idx, 3)) (hl : Cond.methodLink M.1.cls idx arraycopyName ∈ pz_U) (hnat : Cond.native arraycopyName ∈ pz_U) (hstt : Cond.static arraycopyName ∈ pz_U) (hini : Cond.initialized "java/lang/System" ∈ pz_U) (hrest : (st.map fun v => v.category).sum ≤ 8) (hG0 : h.1 a0 = some (.inl (0, n0, .inl f))) (hG1 : h.1 a = some (.inl (0, n1, .inl g))) (h1 : ¬ sp < 0) (h2 : ¬ dp < 0) (h3 : ¬ n < 0) (h4 : sp.toNatClampNeg + n.toNatClampNeg ≤ n0) (h5 : dp.toNatClampNeg + n.toNatClampNeg ≤ n1)
    (kk : pz_W Ψ X M (d + 1) (pc + 3) lv st (pz_up h a (.inl (0, n1, .inl (va_cpy f g sp.toNatClampNeg dp.toNatClampNeg n.toNatClampNeg)))) rc rs Q) : pz_W Ψ X M (d + 1) pc lv (.int n :: .int dp :: .ref a :: .int sp :: .ref a0 :: st) h rc rs Q := by
  intro p l e R s m args below meth c Z H locs cells slots ls hΨ I hL
  have hf := I.1.2.2.2.2.2.2.2.1
  have hlo := I.1.2.2.2.2.2.2.2.2
  have hts := I.1.2.2.2.2.1
  have hK := I.1.2.2.2.2.2.1.1
  have hR := I.2.2.2.1
  have hS := I.2.2.2.2.1
  have nn : ∀ z : Int32, ¬ z < 0 → z.toInt = (z.toNatClampNeg : Int) := by
    intro z hz
    have hz0 : (0 : Int) ≤ z.toInt := by
      have := Int32.not_lt.mp hz
      simpa using Int32.le_iff_toInt_le.mp this
    show z.toInt = ((z.toInt.toNat : Nat) : Int)
    omega
  have hB := (hR.2.2 _ _ hG1).1
  have hc0 : H[a0]? = some (vp_cell (X.2.1 0) (n0, .inl f)) := (hR.2.2 _ _ hG0).2
  have hc1 : H[a]? = some (vp_cell (X.2.1 0) (n1, .inl g)) := (hR.2.2 _ _ hG1).2
  obtain ⟨-, k0, hk0, cm0, hkk0⟩ := (hK.2 0 _ (pz_kt_at X (t := 0) rfl)).1 n0 (fun j => .int (f j))
  obtain ⟨-, k1, hk1, cm1, hkk1⟩ := (hK.2 0 _ (pz_kt_at X (t := 0) rfl)).1 n1 (fun j => .int (g j))
  intro T hT Xs
  obtain ⟨vm', X', step⟩ := Xs.arraycopy I.1.1 I.1.2.2.2.1 (hts _ hl) (hts _ hnat) (hts _ hstt) (hts _ hini) (src := a0) (dst := a) (cs := vp_cell (X.2.1 0) (n0, .inl f)) (cd := vp_cell (X.2.1 0) (n1, .inl g)) (srcPos := sp) (destPos := dp) (n := n) (by rw [hT]; exact hc0) (by rw [hT]; exact hc1)
    (fun _ h => by cases h) (fun _ h => by cases h) (fun h => by cases h) (fun h => by cases h) hk0 hk1 hkk0 hkk1 (by show ((refKind FieldType.int != refKind FieldType.int) || (!refKind FieldType.int && FieldType.int != FieldType.int)) = false; decide) h1 h2 h3
    (by rw [nn sp h1, nn n h3]; show ¬ _ > ((arrV (X.2.1 0) n0 (fun j => .int (f j))).slots.size : Int); rw [arrV_size]; omega)
    (by rw [nn dp h2, nn n h3]; show ¬ _ > ((arrV (X.2.1 0) n1 (fun j => .int (g j))).slots.size : Int); rw [arrV_size]; omega)
    (fun vm₁ _ i hi => by
      have e : (vp_cell (X.2.1 0) (n0, .inl f)).slots.getD (sp.toNatClampNeg + i) .null = .int (f (sp.toNatClampNeg + i)) := by
        show (arrV (X.2.1 0) n0 (fun j => .int (f j))).slots.getD _ _ = _
        rw [Array.getD_eq_getD_getElem?, arrV_read _ _ (by omega)]
        rfl
      refine ⟨?_, ?_⟩
      · rw [e]
        rfl
      · rw [e]
        exact trivial)
    (g := F0 m pc ls (.int n :: .int dp :: .ref a :: .int sp :: .ref a0 :: st)) rfl (by rw [I.1.2.2.1]; exact hL.1) (rest := st) rfl (by rw [I.1.2.1]; exact hdg) (by omega) (by
      have e9 : nativeFrameWords "java/lang/System" "arraycopy" 5 + 11 ≤ 28 := by decide +kernel
      show 2 * 0 + _ + _ ≤ _
      omega)
  have e1 : copied (vp_cell (X.2.1 0) (n0, .inl f)) (vp_cell (X.2.1 0) (n1, .inl g)) sp dp n = vp_cell (X.2.1 0) (n1, .inl (va_cpy f g sp.toNatClampNeg dp.toNatClampNeg n.toNatClampNeg)) := va_copied (fun z => .int z) (X.2.1 0) (X.2.1 0) f g h4
  rw [e1] at X' step
  have hlt : a < H.size := (Array.getElem?_eq_some_iff.mp hc1).1
  have hheap : ((T.setVm vm').setCell a (vp_cell (X.2.1 0) (n1, .inl (va_cpy f g sp.toNatClampNeg dp.toNatClampNeg n.toNatClampNeg)))).heap = H.setIfInBounds a (vp_cell (X.2.1 0) (n1, .inl (va_cpy f g sp.toNatClampNeg dp.toNatClampNeg n.toNatClampNeg))) := by rw [← hT]; rfl
  have oq : ∀ q : Nat, q ≠ a → (H.setIfInBounds a (vp_cell (X.2.1 0) (n1, .inl (va_cpy f g sp.toNatClampNeg dp.toNatClampNeg n.toNatClampNeg))))[q]? = H[q]? := fun q hq => by simp [Array.getElem?_setIfInBounds, Ne.symm hq]
  have hR1 : pz_R X (pz_up h a (.inl (0, n1, .inl (va_cpy f g sp.toNatClampNeg dp.toNatClampNeg n.toNatClampNeg)))) (H.setIfInBounds a (vp_cell (X.2.1 0) (n1, .inl (va_cpy f g sp.toNatClampNeg dp.toNatClampNeg n.toNatClampNeg)))) := hR.set hG1 (show (H.setIfInBounds a _)[a]? = some _ by simp [Array.getElem?_setIfInBounds, hlt]) (by simp) oq
  obtain ⟨t, a1, b1⟩ := kk p l e R s m args below meth c Z _ _ cells slots ls hΨ (I.to hR1 ⟨by simp; exact hS.1, fun q g1 g2 => by
      rw [oq q (fun e => g2 (by rw [e]; exact hB))]
      exact hS.2.1 q g1 g2, fun q hq => by
      rcases List.mem_append.mp hq with h | h
      · exact hS.2.2 q h
      · obtain ⟨z, -, hz⟩ := List.mem_map.mp h
        rw [← hz]
        exact hB⟩ I.2.2.2.2.2.1 I.2.2.2.2.2.2) hL _ hheap X'
  exact ⟨t, step t a1, b1⟩
/-- as pz_call_of, of a JDK method that the machine has no entry for -/
theorem pz_call_ofJ {X : pz_X} {M : pz_M} {d mc ms : Nat} {h : pz_H} {Q : Option Value → pz_H → Prop} {as : List Value} (hy : plainFor M.1 = true) (hlen : (lg_sl as).length ≤ M.2.2.1) (kk : pz_W (fun _ => True) X M d 0 (lv_args 0 as) [] h mc ms Q) : pz_Call X M d mc ms as h Q := by
  intro l
  refine va_MetF (cc := M.2.1) (maxL := M.2.2.1) (ret := M.2.2.2) hy rfl ?_
  intro p e s m args below meth c s₁ B hml hv
  obtain ⟨rfl, hR, hK⟩ := hv
  have hx := B.exec
  have hb := B.bytes
  have hr := B.returns
  have hlocks := B.notSynchronized
  have hnm : meth.name = M.1.name := (name_of_methodNamed B.named B.method).1
  have hts := atoms_spec (ws := pz_ws M) B.pre
  have hl := lv_entry as (n := M.2.2.1) hlen
  rw [lg_entry_eq]
  refine kk p l e _ s m _ below meth c _ s.heap [] 0 0 _ trivial ⟨⟨hx, hb, hml, findClass_of_methodNamed B.named, fun w hw => hts w (List.mem_cons_of_mem _ hw), hK, (fun h9 => hnm.trans h9), Nat.le_refl _, Nat.le_refl _⟩, by rw [hR.1]; exact hR.2.1, ?_, hR, va_S.rf, Nat.le_of_eq (Nat.zero_add _), Nat.le_of_eq (Nat.zero_add _)⟩ hl
  intro r h' H' locs' pc' ls' hq hR' hS' hrt
  match r, hrt with
  | none, hrt => exact W.vret hx hb (hr.trans hrt.1) (fun t ht hW => ⟨⟨none, h', rfl, hq, by rw [ht]; exact hR'⟩, hS'.F ht⟩) hS'.2.2 hrt.2
  | some (.int v), ⟨ty, h1, h2, h3⟩ => exact W.zret hx hb (hr.trans h1) h2 (fun t ht hW => ⟨⟨_, h', rfl, hq, by rw [ht]; exact hR'⟩, hS'.F ht⟩) hS'.2.2 h3
  | some (.long v), ⟨h1, h3⟩ => exact W.lret hx hb (hr.trans h1) (fun t ht hW => ⟨⟨_, h', rfl, hq, by rw [ht]; exact hR'⟩, hS'.F ht⟩) hS'.2.2 h3
  | some (.ref a), ⟨⟨rt, h1, h2⟩, h3⟩ => exact W.aret hx hb (hr.trans h1) h2 (Or.inr ⟨a, rfl⟩) (fun t ht hW => ⟨⟨_, h', rfl, hq, by rw [ht]; exact hR'⟩, hS'.F ht⟩) hS'.2.2 h3
  | some .null, ⟨⟨rt, h1, h2⟩, h3⟩ => exact W.aret hx hb (hr.trans h1) h2 (Or.inl rfl) (fun t ht hW => ⟨⟨_, h', rfl, hq, by rw [ht]; exact hR'⟩, hS'.F ht⟩) hS'.2.2 h3
