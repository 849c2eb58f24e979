/-! HEAP ROWS of the program logic -/
theorem pz_one {X : pz_X} {H : Heap} {q : Nat × va_E} (h : va_at X.1 vwCl q H) : va_P X.1 vwCl [q] H := by
  intro k x hk
  cases k with
  | zero => cases hk; exact h
  | succ k => simp at hk
section PZH
variable {Ψ : State → Prop} {X : pz_X} {M : pz_M} {d pc rc rs : Nat} {lv : List (Nat × Value)} {st : List Value} {h : pz_H} {Q : Option Value → pz_H → Prop}
theorem pz_I.to {X : pz_X} {M : pz_M} {d : Nat} {h h' : pz_H} {rc rs rc' rs' : Nat} {Q : Option Value → pz_H → Prop} {p : Program} {l : Launch} {e : Env} {R : Room} {s : State} {m : MethodId} {args : Array Value} {below : List Frame} {meth : Method} {c : Code} {Z : State → Prop} {H H' : Heap} {locs locs' : List Loc} {cells slots cells' slots' : Nat} (I : pz_I X M d h rc rs Q p l e R s m args below meth c Z H locs cells slots) (hR : pz_R X h' H') (hS : va_S (pz_A X) s.heap H' locs') (hc : cells' + rc' ≤ R.cells) (hs : slots' + rs' ≤ R.slots) : pz_I X M d h' rc' rs' Q p l e R s m args below meth c Z H' locs' cells' slots' := ⟨I.1, I.2.1, I.2.2.1, hR, hS, hc, hs⟩
theorem pz_get {idx ci k a : Nat} {fs : List Value} {v : Value} (hdg : decode M.2.1 pc = .ok (.getfield idx, 3)) (hF : pz_FL M.1.cls idx ci k) (hG : h.1 a = some (.inr (ci, fs))) (hv : fs[k]? = some v) (kk : pz_W Ψ X M d (pc + 3) lv (v :: st) h rc rs Q) : pz_W Ψ X M d pc lv (.ref a :: st) h rc rs Q := by
  intro p l e R s m args below meth c Z H locs cells slots ls hΨ I hL
  obtain ⟨C, T, N, hc, hk, hin, hl⟩ := hF
  exact va_get I.1.1 I.1.2.1 I.1.2.2.2.2.1 hin I.1.2.2.2.1 I.1.2.2.2.2.2.1.1 (pz_one (I.2.2.2.1.2.2 _ _ hG).2) 0 rfl hc k hk (I.1.2.2.2.2.1 _ hl) (fun _ h9 => h9) hv hdg (kk p l e R s m args below meth c Z H locs cells slots ls hΨ I hL)
theorem pz_put {idx ci k a : Nat} {fs : List Value} {v : Value} {ty : FieldType} (hdg : decode M.2.1 pc = .ok (.putfield idx, 3)) (hF : pz_FP M.1.cls idx ci k ty false) (hG : h.1 a = some (.inr (ci, fs))) (hn : narrow ty v = v) (hfit : fits ty v = true) (hlen : k < fs.length) (kk : pz_W Ψ X M d (pc + 3) lv st (pz_up h a (.inr (ci, fs.set k v))) rc rs Q) : pz_W Ψ X M d pc lv (v :: .ref a :: st) h rc rs Q := by
  intro p l e R s m args below meth c Z H locs cells slots ls hΨ I hL
  obtain ⟨C, T, N, ty0, hc, hk, hin, hlk, hty, hnm, hfin, hd, -⟩ := hF
  have hK := I.1.2.2.2.2.2.1.1
  have hts := I.1.2.2.2.2.1
  have hap := va_apart (own := M.1.cls) hts hin ty0 hty hnm hK hc
  obtain ⟨hB, r, h1, cell, q1, q2, q3, q4⟩ := I.2.2.2.1.2.2 _ _ hG
  have hr : r = (C, T, N) := Option.some.inj (h1.symm.trans hc)
  subst hr
  obtain ⟨hS, hfc, kC, hkC, hkind⟩ := hK.1 ci _ hc
  obtain ⟨cf, kf, fi, f, hi, hsl⟩ := hS k hk
  have hlay := hts _ (hin _ (u_in_lay hk))
  unfold u_lay at hlay
  rw [if_neg (by rw [hfin]; decide)] at hlay
  have hst := (u_facts hfc hkC (u_lays hts hin hk) hi).1
  have h6 := u_store hfc hkC hkind hlay hi hd hn hfit
  refine W.putK I.1.1 I.1.2.1 (f := f) ⟨I.1.2.2.2.1, hts _ hlk, ⟨_, _, _, hi⟩, hst⟩ (by rw [q2]; exact h6) q1 q3 (by rw [hsl]; exact k2_hasslot (q4 k hk)) rfl rfl hdg fun H' e1 e2 e3 => ?_
  rw [hsl] at e1 ⊢
  exact kk p l e R s m args below meth c Z H' _ cells slots ls hΨ (I.to (I.2.2.2.1.set hG ⟨_, hc, t_OB.to (V := updV (vp_V fs) k v) ⟨_, e1, q2, q3, t_set q4 hap hk v⟩ (fun j _ => vp_updV_set hlen v j)⟩ e2 e3) (I.2.2.2.2.1.put e2 e3 hB) I.2.2.2.2.2.1 I.2.2.2.2.2.2) hL
theorem pz_putF {idx ci k a : Nat} {fs : List Value} {v : Value} {ty : FieldType} (hdg : decode M.2.1 pc = .ok (.putfield idx, 3)) (hF : pz_FP M.1.cls idx ci k ty true) (hini : M.1.name = "<init>") (hG : h.1 a = some (.inr (ci, fs))) (hn : narrow ty v = v) (hfit : fits ty v = true) (hlen : k < fs.length) (kk : pz_W Ψ X M d (pc + 3) lv st (pz_up h a (.inr (ci, fs.set k v))) rc rs Q) : pz_W Ψ X M d pc lv (v :: .ref a :: st) h rc rs Q := by
  intro p l e R s m args below meth c Z H locs cells slots ls hΨ I hL
  obtain ⟨C, T, N, ty0, hc, hk, hin, hlk, hty, hnm, hfin, hd, hdecl⟩ := hF
  have hdecl := hdecl rfl
  have hK := I.1.2.2.2.2.2.1.1
  have hts := I.1.2.2.2.2.1
  have hown := I.1.2.2.2.1
  have hap := va_apart (own := M.1.cls) hts hin ty0 hty hnm hK hc
  obtain ⟨hB, r, h1, cell, q1, q2, q3, q4⟩ := I.2.2.2.1.2.2 _ _ hG
  have hr : r = (C, T, N) := Option.some.inj (h1.symm.trans hc)
  subst hr
  obtain ⟨hS, hfc, kC, hkC, hkind⟩ := hK.1 ci _ hc
  obtain ⟨cf, kf, fi, f, hi, hsl⟩ := hS k hk
  have hlay := hts _ (hin _ (u_in_lay hk))
  unfold u_lay at hlay
  rw [if_pos hfin] at hlay
  have hst := (u_facts hfc hkC (u_lays hts hin hk) hi).1
  have hcf : m.cls = cf := by
    obtain ⟨_, _, c', _, _, _, -, -, hf', -, -, -, hown2, -⟩ := Cond.laysFinal_spec hlay
    have e1 : c' = cf := by have := hi.symm.trans hf'; simp at this; exact this.1.symm
    rw [hdecl] at hown2
    rw [← e1]; exact Option.some.inj (hown.symm.trans hown2)
  have h6 := u_fits hfc hkC hkind (Or.inr hlay) hi hd hn hfit
  refine W.putFinK I.1.1 I.1.2.1 hown (hts _ hlk) hi hst hcf (I.1.2.2.2.2.2.2.1 hini) (by rw [q2]; exact h6) q1 q3 (by rw [hsl]; exact k2_hasslot (q4 k hk)) rfl rfl hdg fun H' e1 e2 e3 => ?_
  rw [hsl] at e1 ⊢
  exact kk p l e R s m args below meth c Z H' _ cells slots ls hΨ (I.to (I.2.2.2.1.set hG ⟨_, hc, t_OB.to (V := updV (vp_V fs) k v) ⟨_, e1, q2, q3, t_set q4 hap hk v⟩ (fun j _ => vp_updV_set hlen v j)⟩ e2 e3) (I.2.2.2.2.1.put e2 e3 hB) I.2.2.2.2.2.1 I.2.2.2.2.2.2) hL
theorem pz_iald {a n : Nat} {f : Nat → Int32} {i : Int32} (hdg : decode M.2.1 pc = .ok (.iaload, 1)) (hG : h.1 a = some (.inl (0, n, .inl f))) (hin : vp_in i n) (kk : pz_W Ψ X M d (pc + 1) lv (.int (f i.toNatClampNeg) :: st) h rc rs Q) : pz_W Ψ X M d pc lv (.int i :: .ref a :: st) h rc rs Q := by
  intro p l e R s m args below meth c Z H locs cells slots ls hΨ I hL
  exact va_iald I.1.1 I.1.2.1 I.1.2.2.2.2.2.1.1 (pz_one (I.2.2.2.1.2.2 _ _ hG).2) 0 0 rfl (pz_kt_at X (t := 0) rfl) hin hdg (kk p l e R s m args below meth c Z H locs cells slots ls hΨ I hL)
theorem pz_lald {a n : Nat} {f : Nat → Int64} {i : Int32} (hdg : decode M.2.1 pc = .ok (.laload, 1)) (hG : h.1 a = some (.inl (1, n, .inr (.inl f)))) (hin : vp_in i n) (kk : pz_W Ψ X M d (pc + 1) lv (.long (f i.toNatClampNeg) :: st) h rc rs Q) : pz_W Ψ X M d pc lv (.int i :: .ref a :: st) h rc rs Q := by
  intro p l e R s m args below meth c Z H locs cells slots ls hΨ I hL
  exact va_lald I.1.1 I.1.2.1 I.1.2.2.2.2.2.1.1 (pz_one (I.2.2.2.1.2.2 _ _ hG).2) 0 1 rfl (pz_kt_at X (t := 1) rfl) hin hdg (kk p l e R s m args below meth c Z H locs cells slots ls hΨ I hL)
theorem pz_zald {a n : Nat} {f : Nat → Int32} {i : Int32} (hdg : decode M.2.1 pc = .ok (.baload, 1)) (hG : h.1 a = some (.inl (4, n, .inl f))) (hin : vp_in i n) (kk : pz_W Ψ X M d (pc + 1) lv (.int (f i.toNatClampNeg) :: st) h rc rs Q) : pz_W Ψ X M d pc lv (.int i :: .ref a :: st) h rc rs Q := by
  intro p l e R s m args below meth c Z H locs cells slots ls hΨ I hL
  exact va_zald I.1.1 I.1.2.1 I.1.2.2.2.2.2.1.1 (pz_one (I.2.2.2.1.2.2 _ _ hG).2) 0 4 rfl (pz_kt_at X (t := 4) rfl) hin hdg (kk p l e R s m args below meth c Z H locs cells slots ls hΨ I hL)
theorem pz_aald {a n : Nat} {f : Nat → Option Nat} {i : Int32} (hdg : decode M.2.1 pc = .ok (.aaload, 1)) (hG : h.1 a = some (.inl (2, n, .inr (.inr (.inr (.inr f)))))) (hin : vp_in i n) (kk : pz_W Ψ X M d (pc + 1) lv (va_rf (f i.toNatClampNeg) :: st) h rc rs Q) : pz_W Ψ X M d pc lv (.int i :: .ref a :: st) h rc rs Q := by
  intro p l e R s m args below meth c Z H locs cells slots ls hΨ I hL
  exact va_aldq I.1.1 I.1.2.1 I.1.2.2.2.2.2.1.1 (pz_one (I.2.2.2.1.2.2 _ _ hG).2) 0 2 rfl (pz_kt_at X (t := 2) rfl) hin hdg (kk p l e R s m args below meth c Z H locs cells slots ls hΨ I hL)
theorem pz_aald2 {a n : Nat} {f : Nat → Option Nat} {i : Int32} (hdg : decode M.2.1 pc = .ok (.aaload, 1)) (hG : h.1 a = some (.inl (3, n, .inr (.inr (.inr (.inr f)))))) (hin : vp_in i n) (kk : pz_W Ψ X M d (pc + 1) lv (va_rf (f i.toNatClampNeg) :: st) h rc rs Q) : pz_W Ψ X M d pc lv (.int i :: .ref a :: st) h rc rs Q := by
  intro p l e R s m args below meth c Z H locs cells slots ls hΨ I hL
  have hlt : i.toNatClampNeg < n := Nat.not_le.mp fun q => hin (Or.inr q)
  exact W.aald (v := va_rf (f i.toNatClampNeg)) (ty := .array .int) I.1.1 I.1.2.1 (I.2.2.2.1.2.2 _ _ hG).2 ((I.1.2.2.2.2.2.1.1.2 3 _ (pz_kt_at X (t := 3) rfl)).1 n (fun j => va_rf (f j))) rfl (fun q => by cases q) (by show ¬ (i < 0 ∨ (arrV _ _ _).slots.size ≤ _); rw [arrV_size]; exact hin) (by show (arrV _ _ _).slots[_]? = _; rw [arrV_read _ _ hlt]) rfl rfl hdg (kk p l e R s m args below meth c Z H locs cells slots ls hΨ I hL)
theorem pz_iast {a n : Nat} {f : Nat → Int32} {i : Int32} {x : Int32} (hdg : decode M.2.1 pc = .ok (.iastore, 1)) (hG : h.1 a = some (.inl (0, n, .inl f))) (hin : vp_in i n) (kk : pz_W Ψ X M d (pc + 1) lv st (pz_up h a (.inl (0, n, .inl (upd f i.toNatClampNeg x)))) rc rs Q) : pz_W Ψ X M d pc lv (.int x :: .int i :: .ref a :: st) h rc rs Q := by
  intro p l e R s m args below meth c Z H locs cells slots ls hΨ I hL
  have hG1 := I.2.2.2.1.2.2 _ _ hG
  refine W.iast I.1.1 I.1.2.1 hG1.2 ((I.1.2.2.2.2.2.1.1.2 0 _ (pz_kt_at X (t := 0) rfl)).1 n (fun j => .int (f j))) (fun q => by cases q) (by show ¬ (i < 0 ∨ (arrV _ _ _).slots.size ≤ _); rw [arrV_size]; exact hin) rfl rfl hdg fun H1 e1 z oq => ?_
  refine kk p l e R s m args below meth c Z H1 _ cells slots ls hΨ (I.to (I.2.2.2.1.set hG ?_ z oq) (I.2.2.2.2.1.put z oq hG1.1) I.2.2.2.2.2.1 I.2.2.2.2.2.2) hL
  show H1[a]? = some (vp_cell _ _)
  rw [e1]
  show some ((vp_cell _ _).setSlot _ _) = _
  rw [vp_cell_i, vp_cell_i, arrV_store]
  congr 2
  funext q
  by_cases hq : q = i.toNatClampNeg
  · subst hq
    simp [updV, upd]
    try rfl
  · simp [updV, upd, hq]
theorem pz_last {a n : Nat} {f : Nat → Int64} {i : Int32} {x : Int64} (hdg : decode M.2.1 pc = .ok (.lastore, 1)) (hG : h.1 a = some (.inl (1, n, .inr (.inl f)))) (hin : vp_in i n) (kk : pz_W Ψ X M d (pc + 1) lv st (pz_up h a (.inl (1, n, .inr (.inl (vp_updL f i.toNatClampNeg x))))) rc rs Q) : pz_W Ψ X M d pc lv (.long x :: .int i :: .ref a :: st) h rc rs Q := by
  intro p l e R s m args below meth c Z H locs cells slots ls hΨ I hL
  have hG1 := I.2.2.2.1.2.2 _ _ hG
  refine W.last I.1.1 I.1.2.1 hG1.2 ((I.1.2.2.2.2.2.1.1.2 1 _ (pz_kt_at X (t := 1) rfl)).1 n (fun j => .long (f j))) (fun q => by cases q) (by show ¬ (i < 0 ∨ (arrV _ _ _).slots.size ≤ _); rw [arrV_size]; exact hin) rfl rfl hdg fun H1 e1 z oq => ?_
  refine kk p l e R s m args below meth c Z H1 _ cells slots ls hΨ (I.to (I.2.2.2.1.set hG ?_ z oq) (I.2.2.2.2.1.put z oq hG1.1) I.2.2.2.2.2.1 I.2.2.2.2.2.2) hL
  show H1[a]? = some (vp_cell _ _)
  rw [e1]
  show some ((vp_cell _ _).setSlot _ _) = _
  rw [vp_cell_l, vp_cell_l, arrV_store]
  congr 2
  funext q
  by_cases hq : q = i.toNatClampNeg
  · subst hq
    simp [updV, vp_updL]
    try rfl
  · simp [updV, vp_updL, hq]
theorem pz_zast {a n : Nat} {f : Nat → Int32} {i : Int32} {x : Int32} (hdg : decode M.2.1 pc = .ok (.bastore, 1)) (hG : h.1 a = some (.inl (4, n, .inl f))) (hin : vp_in i n) (kk : pz_W Ψ X M d (pc + 1) lv st (pz_up h a (.inl (4, n, .inl (upd f i.toNatClampNeg (vp_nar .boolean x))))) rc rs Q) : pz_W Ψ X M d pc lv (.int x :: .int i :: .ref a :: st) h rc rs Q := by
  intro p l e R s m args below meth c Z H locs cells slots ls hΨ I hL
  have hG1 := I.2.2.2.1.2.2 _ _ hG
  refine W.zast I.1.1 I.1.2.1 hG1.2 ((I.1.2.2.2.2.2.1.1.2 4 _ (pz_kt_at X (t := 4) rfl)).1 n (fun j => .int (f j))) (fun q => by cases q) (by show ¬ (i < 0 ∨ (arrV _ _ _).slots.size ≤ _); rw [arrV_size]; exact hin) rfl rfl hdg fun H1 e1 z oq => ?_
  refine kk p l e R s m args below meth c Z H1 _ cells slots ls hΨ (I.to (I.2.2.2.1.set hG ?_ z oq) (I.2.2.2.2.1.put z oq hG1.1) I.2.2.2.2.2.1 I.2.2.2.2.2.2) hL
  show H1[a]? = some (vp_cell _ _)
  rw [e1]
  show some ((vp_cell _ _).setSlot _ _) = _
  rw [vp_cell_i, vp_cell_i, arrV_store]
  congr 2
  funext q
  by_cases hq : q = i.toNatClampNeg
  · subst hq
    simp [updV, upd, vp_nar]
    try rfl
  · simp [updV, upd, vp_nar, hq]
theorem pz_alen {a t : Nat} {x : vp_A} {ty : FieldType} {v : Int32} (hdg : decode M.2.1 pc = .ok (.arraylength, 1)) (hG : h.1 a = some (.inl (t, x))) (ht : pz_ty[t]? = some ty) (hv : Int32.ofNat x.1 = v) (kk : pz_W Ψ X M d (pc + 1) lv (.int v :: st) h rc rs Q) : pz_W Ψ X M d pc lv (.ref a :: st) h rc rs Q := by
  intro p l e R s m args below meth c Z H locs cells slots ls hΨ I hL
  exact va_alen I.1.1 I.1.2.1 I.1.2.2.2.2.2.1.1 (pz_one (I.2.2.2.1.2.2 _ _ hG).2) 0 t rfl (pz_kt_at X ht) hv hdg (kk p l e R s m args below meth c Z H locs cells slots ls hΨ I hL)
theorem pz_aast {a n v ci : Nat} {vs : List Value} {f : Nat → Option Nat} {i : Int32} (hdg : decode M.2.1 pc = .ok (.aastore, 1)) (hG : h.1 a = some (.inl (2, n, .inr (.inr (.inr (.inr f)))))) (hV : h.1 v = some (.inr (1, vs))) (hin : vp_in i n) (kk : pz_W Ψ X M d (pc + 1) lv st (pz_up h a (.inl (2, n, .inr (.inr (.inr (.inr (va_up f i.toNatClampNeg (some v)))))))) rc rs Q) : pz_W Ψ X M d pc lv (.ref v :: .int i :: .ref a :: st) h rc rs Q := by
  intro p l e R s m args below meth c Z H locs cells slots ls hΨ I hL
  have hG1 := I.2.2.2.1.2.2 _ _ hG
  have hK := I.1.2.2.2.2.2.1.1
  have hlt : i.toNatClampNeg < n := Nat.not_le.mp fun q => hin (Or.inr q)
  have h0 : ¬ i < 0 := fun q => hin (Or.inl q)
  obtain ⟨-, r', hr', cellV, g1, g2, g3, -⟩ := I.2.2.2.1.2.2 _ _ hV
  have hcls := (hK.1 1 (RX1, TX1, 18) rfl).2
  obtain ⟨kA, comp, k1, k2, k3, -⟩ := (hK.2 2 _ (pz_kt_at X (t := 2) rfl)).2
  have hcomp : comp = X.1.1 1 := Option.some.inj (k3.symm.trans hcls.1)
  subst hcomp
  obtain ⟨kC, hkC, -⟩ := hcls.2
  refine W.aast I.1.1 I.1.2.1 hG1.2 (fun q h => by cases h) (fun h => by cases h) k1 k2 rfl hkC ⟨h0, by show _ < (arrV _ _ _).slots.size; rw [arrV_size]; exact hlt⟩ g1 (fun q h => by rw [g3] at h; cases h) (by rw [g2]; exact hkC) (by rw [g2]; exact va_assign hcls) rfl rfl hdg fun H1 e1 z oq => ?_
  refine kk p l e R s m args below meth c Z H1 _ cells slots ls hΨ (I.to (I.2.2.2.1.set hG ?_ z oq) (I.2.2.2.2.1.put z oq hG1.1) I.2.2.2.2.2.1 I.2.2.2.2.2.2) hL
  show H1[a]? = some (vp_cell _ _)
  rw [e1]
  show some ((vp_cell _ _).setSlot _ _) = _
  rw [vp_cell_q, vp_cell_q, arrV_store]
  congr 2
  funext q
  by_cases hq : q = i.toNatClampNeg
  · subst hq
    simp [updV, va_up, va_rf]
  · simp [updV, va_up, hq]
theorem pz_objInit {a idx : Nat} (hdg : decode M.2.1 pc = .ok (.invokespecial idx, 3)) (hl : Cond.methodLink M.1.cls idx objectInit ∈ pz_U) (hi : Cond.instanceMethod objectInit ∈ pz_U) (hcd : Cond.code objectInit ⟨#[0xb1]⟩ 1 none ∈ pz_U) (hr : (st.map fun v => v.category).sum ≤ 8) (kk : pz_W Ψ X M (d + 1) (pc + 3) lv st h rc rs Q) : pz_W Ψ X M (d + 1) pc lv (.ref a :: st) h rc rs Q := by
  intro p l e R s m args below meth c Z H locs cells slots ls hΨ I hL
  have hf := I.1.2.2.2.2.2.2.2.1
  have hlo := I.1.2.2.2.2.2.2.2.2
  exact W.objInit I.1.1 I.1.2.1 I.1.2.2.2.1 (I.1.2.2.2.2.1 _ hl) (I.1.2.2.2.2.1 _ hi) (I.1.2.2.2.2.1 _ hcd) rfl (by rw [I.1.2.2.1]; exact hL.1) rfl hdg (by omega) (by show 2 * 0 + _ + 12 ≤ _; omega) (W.eq (g2 := F0 m (pc + 3) ls st) rfl (kk p l e R s m args below meth c Z H locs cells slots ls hΨ I hL))
theorem pz_new {idx ci N : Nat} {C : String} {T : u_T} {ty : Nat → FieldType} {fs : List Value} (hdg : decode M.2.1 pc = .ok (.new idx, 3)) (hc : vwCl[ci]? = some (C, T, N)) (hin : ∀ w ∈ u_ws C T N, w ∈ pz_U) (hty : ∀ k, k < N → parseFieldDescriptor (T k).2.2.1 = some (ty k)) (h1 : Cond.classLink M.1.cls idx C ∈ pz_U) (h2 : Cond.instantiable C N ∈ pz_U) (h3 : Cond.initialized C ∈ pz_U) (hfs : ∀ j, j < N → defaultValue (ty j) = vp_V fs j)
    (kk : (∀ (q : Nat) (c : pz_E), h.1 q = some c → q < h.2) → pz_W Ψ X M d (pc + 3) lv (.ref h.2 :: st) (pz_nw h (.inr (ci, fs))) rc rs Q) : pz_W Ψ X M d pc lv st h (rc + 1) (rs + N) Q := by
  intro p l e R s m args below meth c Z H locs cells slots ls hΨ I hL
  have hK := I.1.2.2.2.2.2.1.1
  have hts := I.1.2.2.2.2.1
  have hR := I.2.2.2.1
  have hS := I.2.2.2.2.1
  have hcc := I.2.2.2.2.2.1
  have hss := I.2.2.2.2.2.2
  have hKn := hK.1 ci _ hc
  refine W.newcK I.1.1 I.1.2.1 I.1.2.2.2.1 (hts _ h1) (hts _ h2) (hts _ h3) rfl hdg (by omega) (by omega) hKn.2.1 hR.1 fun H1 kC hkC e1 z1 o1 => ?_
  exact kk (fun q c hq => hR.lt hq) p l e R s m args below meth c Z H1 locs (cells + 1) (slots + N) ls hΨ (I.to (hR.push ⟨_, hc, (u_born ty hts hin hKn hkC e1 hty).to hfs⟩ z1 o1) ⟨Nat.le_trans hS.1 (by rw [z1, hR.1]; omega), fun x g1 g2 => (o1 x (by rw [← hR.1]; exact Nat.lt_of_lt_of_le g1 hS.1)).trans (hS.2.1 x g1 g2), hS.2.2⟩ (by omega) (by omega)) hL
theorem pz_newa {t N : Nat} {at_ : ArrayType} {n : Int32} {a0 : vp_A} (hdg : decode M.2.1 pc = .ok (.newarray at_, 2)) (ht : pz_ty[t]? = some (newarray.typeOf at_)) (hp : ∀ (U : State) (cA : ClassId), va_RA U cA (newarray.typeOf at_) → U.vm.findClass ("[" ++ (newarray.typeOf at_).toString) = some cA) (hw : Cond.arrayClass (newarray.typeOf at_) ∈ pz_U) (ha : ∀ cA : ClassId, vp_cell cA a0 = arrV cA N (fun _ => defaultValue (newarray.typeOf at_))) (hn : ¬ n < 0) (hN : n.toNatClampNeg = N) (hby : N * componentBytes (newarray.typeOf at_) ≤ 536870912)
    (kk : (∀ (q : Nat) (c : pz_E), h.1 q = some c → q < h.2) → pz_W Ψ X M d (pc + 2) lv (.ref h.2 :: st) (pz_nw h (.inl (t, a0))) rc rs Q) : pz_W Ψ X M d pc lv (.int n :: st) h (rc + 1) (rs + N) Q := by
  intro p l e R s m args below meth c Z H locs cells slots ls hΨ I hL
  have hK := I.1.2.2.2.2.2.1.1
  have hts := I.1.2.2.2.2.1
  have hR := I.2.2.2.1
  have hS := I.2.2.2.2.1
  have hcc := I.2.2.2.2.2.1
  have hss := I.2.2.2.2.2.2
  refine va_newaK I.1.1 I.1.2.1 (hts _ hw) rfl hdg rfl hn hN hby (by omega) (by omega) hR.1 fun H1 cA e1 z1 o1 hAr hNm => ?_
  have hid : cA = X.2.1 t := Option.some.inj (hNm.symm.trans (hp _ _ (hK.2 t _ (pz_kt_at X ht)).2))
  subst hid
  refine kk (fun q c hq => hR.lt hq) p l e R s m args below meth c Z H1 locs (cells + 1) (slots + N) ls hΨ (I.to (hR.push ?_ z1 o1) ⟨Nat.le_trans hS.1 (by rw [z1, hR.1]; omega), fun x g1 g2 => (o1 x (by rw [← hR.1]; exact Nat.lt_of_lt_of_le g1 hS.1)).trans (hS.2.1 x g1 g2), hS.2.2⟩ (by omega) (by omega)) hL
  show H1[h.2]? = some (vp_cell _ _)
  rw [ha]
  exact e1
theorem pz_anew {N idx : Nat} {n : Int32} (hdg : decode M.2.1 pc = .ok (.anewarray idx, 3)) (hcl : Cond.classLink M.1.cls idx "CreaseFlat$Paper" ∈ pz_U) (hn : ¬ n < 0) (hN : n.toNatClampNeg = N) (hby : N * 4 ≤ 536870912)
    (kk : (∀ (q : Nat) (c : pz_E), h.1 q = some c → q < h.2) → pz_W Ψ X M d (pc + 3) lv (.ref h.2 :: st) (pz_nw h (.inl (2, N, .inr (.inr (.inr (.inr (fun _ => none))))))) rc rs Q) : pz_W Ψ X M d pc lv (.int n :: st) h (rc + 1) (rs + N) Q := by
  intro p l e R s m args below meth c Z H locs cells slots ls hΨ I hL
  have hK := I.1.2.2.2.2.2.1.1
  have hts := I.1.2.2.2.2.1
  have hR := I.2.2.2.1
  have hS := I.2.2.2.2.1
  have hcc := I.2.2.2.2.2.1
  have hss := I.2.2.2.2.2.2
  subst hN
  refine W.anew I.1.1 I.1.2.1 I.1.2.2.2.1 (hts _ hcl) (va_AO.use (I.1.2.2.2.2.2.1.2.2.2.1 _ List.mem_cons_self)) rfl hdg rfl hn hby (by omega) (by omega) fun cA kA comp f1 f2 f3 f4 => ?_
  have hid : cA = X.2.1 2 := by
    obtain ⟨kA, comp, k1, k2, k3, k4⟩ := (hK.2 2 _ (pz_kt_at X (t := 2) rfl)).2
    exact Option.some.inj (f1.symm.trans k4)
  subst hid
  generalize hH1 : H.push ({ cls := X.2.1 2, slots := Array.replicate n.toNatClampNeg .null, vm := .none } : Cell) = H1
  have z1 : H1.size = H.size + 1 := by rw [← hH1, Array.size_push]
  have e1 : H1[H.size]? = some (arrV (X.2.1 2) n.toNatClampNeg (fun _ => .null)) := by rw [← hH1, Array.getElem?_push_size, ← arrV_new]
  have o1 : ∀ q : Nat, q < H.size → H1[q]? = H[q]? := fun q hq => by rw [← hH1, Array.getElem?_push, if_neg (Nat.ne_of_lt hq)]
  rw [hR.1] at z1 e1 o1 ⊢
  refine kk (fun q c hq => hR.lt hq) p l e R s m args below meth c Z H1 locs (cells + 1) (slots + n.toNatClampNeg) ls hΨ (I.to (hR.push ?_ z1 o1) ⟨Nat.le_trans hS.1 (by rw [z1, hR.1]; omega), fun x g1 g2 => (o1 x (by rw [← hR.1]; exact Nat.lt_of_lt_of_le g1 hS.1)).trans (hS.2.1 x g1 g2), hS.2.2⟩ (by omega) (by omega)) hL
  show H1[h.2]? = some (vp_cell _ _)
  rw [vp_cell_q, e1]
  rfl
theorem pz_mmin {idx : Nat} {x y : Int32} (hdg : decode M.2.1 pc = .ok (.invokestatic idx, 3)) (hl : Cond.methodLink M.1.cls idx Lib.Math.min.name ∈ pz_U) (hs1 : Cond.static Lib.Math.min.name ∈ pz_U) (hi : Cond.initialized "java/lang/Math" ∈ pz_U) (hcd : Cond.code Lib.Math.min.name Lib.Math.min.code 2 (some .int) ∈ pz_U) (hr : (st.map fun v => v.category).sum ≤ 8) (kk : pz_W Ψ X M (d + 1) (pc + 3) lv (.int (if y < x then y else x) :: st) h rc rs Q) : pz_W Ψ X M (d + 1) pc lv (.int y :: .int x :: st) h rc rs Q := by
  intro p l e R s m args below meth c Z H locs cells slots ls hΨ I hL
  have hf := I.1.2.2.2.2.2.2.2.1
  have hlo := I.1.2.2.2.2.2.2.2.2
  have hts := I.1.2.2.2.2.1
  have hcc := I.2.2.2.2.2.1
  have hss := I.2.2.2.2.2.2
  exact va_mmin I.1.1 I.1.2.1 (I.1.2.2.1.trans hL.1.symm) I.1.2.2.2.1 (hts _ hl) (hts _ hs1) (hts _ hi) (hts _ hcd) (by omega) (by omega) (by omega) (by omega) hdg (kk p l e R s m args below meth c Z H locs cells slots ls hΨ I hL)
theorem pz_mmax {idx : Nat} {x y : Int32} (hdg : decode M.2.1 pc = .ok (.invokestatic idx, 3)) (hl : Cond.methodLink M.1.cls idx Lib.Math.max.name ∈ pz_U) (hs1 : Cond.static Lib.Math.max.name ∈ pz_U) (hi : Cond.initialized "java/lang/Math" ∈ pz_U) (hcd : Cond.code Lib.Math.max.name Lib.Math.max.code 2 (some .int) ∈ pz_U) (hr : (st.map fun v => v.category).sum ≤ 8) (kk : pz_W Ψ X M (d + 1) (pc + 3) lv (.int (if x < y then y else x) :: st) h rc rs Q) : pz_W Ψ X M (d + 1) pc lv (.int y :: .int x :: st) h rc rs Q := by
  intro p l e R s m args below meth c Z H locs cells slots ls hΨ I hL
  have hf := I.1.2.2.2.2.2.2.2.1
  have hlo := I.1.2.2.2.2.2.2.2.2
  have hts := I.1.2.2.2.2.1
  have hcc := I.2.2.2.2.2.1
  have hss := I.2.2.2.2.2.2
  exact va_mmax I.1.1 I.1.2.1 (I.1.2.2.1.trans hL.1.symm) I.1.2.2.2.1 (hts _ hl) (hts _ hs1) (hts _ hi) (hts _ hcd) (by omega) (by omega) (by omega) (by omega) hdg (kk p l e R s m args below meth c Z H locs cells slots ls hΨ I hL)
end PZH
